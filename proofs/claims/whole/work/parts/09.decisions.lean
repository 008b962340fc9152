section GM
variable {p : Program} {l : Launch} {e : Env} {s : State} {m : MethodId} {args : Array Value} {below : List Frame} {meth : Method} {c : Code} {Γ : fGm}
def f_X0_countBefore_b60 (b0 : Nat) (K15 : Int32 → Int32 → Int32 → Int32 → fS → Option (Int32 × fS)) (v1 : Int32) (v2 : Int32) (v3 : Int32) (v4 : Int32) (σ : fS) : Option (Int32 × fS) := K15 (v1) (v2) (v3) ((v4 + (1 : Int32))) σ
set_option maxRecDepth 100000 in
set_option maxHeartbeats 4000000 in
theorem w_X0_countBefore_b60 {b0 : Nat} {r : Int32} {σ' : fS} {K15 : Int32 → Int32 → Int32 → Int32 → fS → Option (Int32 × fS)} (h0 : fD b0 = (3, 0, 0))  (C : fC Γ p s m args meth c cX0_countBefore (some .int) RX0 6) (hK15 : ∀ (v1 : Int32) (v2 : Int32) (v3 : Int32) (v4 : Int32) (σ : fS) (H : Heap) (locs : List Loc) (ls : Array Slot), K15 v1 v2 v3 v4 σ = some (r, σ') → fH Γ σ H → va_S (fAd Γ) s.heap H locs → lv_has ls 6 [(0, .ref (Γ.1 b0)), (1, .int v1), (2, .int v2), (3, .int v3), (4, .int v4)] → W p l e ({ frames := 1, cells := 0, slots := 0, locals := 22 } : Room) s m args below meth c H locs 0 0 (MQ below (fQi Γ r σ') args s 0 0 (fAd Γ)) (F0 m 15 ls [])) : ∀ (v1 : Int32) (v2 : Int32) (v3 : Int32) (v4 : Int32) (σ : fS) (H : Heap) (locs : List Loc) (ls : Array Slot), f_X0_countBefore_b60 b0 K15 v1 v2 v3 v4 σ = some (r, σ') → fH Γ σ H → va_S (fAd Γ) s.heap H locs → lv_has ls 6 [(0, .ref (Γ.1 b0)), (1, .int v1), (2, .int v2), (3, .int v3), (4, .int v4)] → W p l e ({ frames := 1, cells := 0, slots := 0, locals := 22 } : Room) s m args below meth c H locs 0 0 (MQ below (fQi Γ r σ') args s 0 0 (fAd Γ)) (F0 m 60 ls []) := by
  intro v1 v2 v3 v4 σ H locs ls hf hP hS hl
  unfold f_X0_countBefore_b60 at hf
  refine lv_iinc (v := (v4 + (1 : Int32))) (lv' := [(4, .int (v4 + (1 : Int32))), (0, .ref (Γ.1 b0)), (1, .int v1), (2, .int v2), (3, .int v3)]) C.1 C.2.1 (kd kX0_countBefore_0 31 rfl) hl (k := 4) rfl rfl (Nat.le_of_ble_eq_true rfl) rfl (fun ls hl => ?_)
  refine lv_goto (tgt := 15) C.1 C.2.1 (kd kX0_countBefore_0 32 rfl) (by decide) ?_
  exact hK15 (v1) (v2) (v3) ((v4 + (1 : Int32))) σ H locs ls hf hP hS (lv_sub hl [1, 2, 3, 4, 0] rfl)
def f_X0_countBefore_b57 (b0 : Nat) (K15 : Int32 → Int32 → Int32 → Int32 → fS → Option (Int32 × fS)) (v1 : Int32) (v2 : Int32) (v3 : Int32) (v4 : Int32) (σ : fS) : Option (Int32 × fS) := f_X0_countBefore_b60 b0 K15 (v1) (v2) ((v3 + (1 : Int32))) (v4) σ
set_option maxRecDepth 100000 in
set_option maxHeartbeats 4000000 in
theorem w_X0_countBefore_b57 {b0 : Nat} {r : Int32} {σ' : fS} {K15 : Int32 → Int32 → Int32 → Int32 → fS → Option (Int32 × fS)} (h0 : fD b0 = (3, 0, 0))  (C : fC Γ p s m args meth c cX0_countBefore (some .int) RX0 6) (hK15 : ∀ (v1 : Int32) (v2 : Int32) (v3 : Int32) (v4 : Int32) (σ : fS) (H : Heap) (locs : List Loc) (ls : Array Slot), K15 v1 v2 v3 v4 σ = some (r, σ') → fH Γ σ H → va_S (fAd Γ) s.heap H locs → lv_has ls 6 [(0, .ref (Γ.1 b0)), (1, .int v1), (2, .int v2), (3, .int v3), (4, .int v4)] → W p l e ({ frames := 1, cells := 0, slots := 0, locals := 22 } : Room) s m args below meth c H locs 0 0 (MQ below (fQi Γ r σ') args s 0 0 (fAd Γ)) (F0 m 15 ls [])) : ∀ (v1 : Int32) (v2 : Int32) (v3 : Int32) (v4 : Int32) (σ : fS) (H : Heap) (locs : List Loc) (ls : Array Slot), f_X0_countBefore_b57 b0 K15 v1 v2 v3 v4 σ = some (r, σ') → fH Γ σ H → va_S (fAd Γ) s.heap H locs → lv_has ls 6 [(0, .ref (Γ.1 b0)), (1, .int v1), (2, .int v2), (3, .int v3), (4, .int v4)] → W p l e ({ frames := 1, cells := 0, slots := 0, locals := 22 } : Room) s m args below meth c H locs 0 0 (MQ below (fQi Γ r σ') args s 0 0 (fAd Γ)) (F0 m 57 ls []) := by
  intro v1 v2 v3 v4 σ H locs ls hf hP hS hl
  unfold f_X0_countBefore_b57 at hf
  refine lv_iinc (v := (v3 + (1 : Int32))) (lv' := [(3, .int (v3 + (1 : Int32))), (0, .ref (Γ.1 b0)), (1, .int v1), (2, .int v2), (4, .int v4)]) C.1 C.2.1 (kd kX0_countBefore_0 30 rfl) hl (k := 3) rfl rfl (Nat.le_of_ble_eq_true rfl) rfl (fun ls hl => ?_)
  exact w_X0_countBefore_b60 h0 C hK15 (v1) (v2) ((v3 + (1 : Int32))) (v4) σ H locs ls hf hP hS (lv_sub hl [1, 2, 3, 0, 4] rfl)
def f_X0_countBefore_b15 (b0 : Nat) : Nat → Int32 → Int32 → Int32 → Int32 → fS → Option (Int32 × fS)
  | 0, _, _, _, _, _ => none
  | n_ + 1, v1, v2, v3, v4, σ => fcall (f_X5_size (b0 + 5) 12 4 σ) (fun r1_ σ1 => (if r1_ ≤ v4 then some (v3, σ1) else fcall (f_X5_at (b0 + 5) 12 4 v4 (3 : Int32) σ1) (fun r2_ σ2 => (if r2_ < v2 then f_X0_countBefore_b57 b0 (fun v1 v2 v3 v4 σ => f_X0_countBefore_b15 b0 n_ v1 v2 v3 v4 σ) (v1) (v2) (v3) (v4) σ2 else (if r2_ = v2 then (if v1 ≤ v4 then f_X0_countBefore_b60 b0 (fun v1 v2 v3 v4 σ => f_X0_countBefore_b15 b0 n_ v1 v2 v3 v4 σ) (v1) (v2) (v3) (v4) σ2 else f_X0_countBefore_b57 b0 (fun v1 v2 v3 v4 σ => f_X0_countBefore_b15 b0 n_ v1 v2 v3 v4 σ) (v1) (v2) (v3) (v4) σ2) else f_X0_countBefore_b60 b0 (fun v1 v2 v3 v4 σ => f_X0_countBefore_b15 b0 n_ v1 v2 v3 v4 σ) (v1) (v2) (v3) (v4) σ2)))))
set_option maxRecDepth 100000 in
set_option maxHeartbeats 4000000 in
theorem w_X0_countBefore_b15 {b0 : Nat} {r : Int32} {σ' : fS} (h0 : fD b0 = (3, 0, 0))  (C : fC Γ p s m args meth c cX0_countBefore (some .int) RX0 6) : ∀ (n_ : Nat) (v1 : Int32) (v2 : Int32) (v3 : Int32) (v4 : Int32) (σ : fS) (H : Heap) (locs : List Loc) (ls : Array Slot), f_X0_countBefore_b15 b0 n_ v1 v2 v3 v4 σ = some (r, σ') → fH Γ σ H → va_S (fAd Γ) s.heap H locs → lv_has ls 6 [(0, .ref (Γ.1 b0)), (1, .int v1), (2, .int v2), (3, .int v3), (4, .int v4)] → W p l e ({ frames := 1, cells := 0, slots := 0, locals := 22 } : Room) s m args below meth c H locs 0 0 (MQ below (fQi Γ r σ') args s 0 0 (fAd Γ)) (F0 m 15 ls []) := by
  intro n_
  induction n_ with
  | zero =>
    intro v1 v2 v3 v4 σ H locs ls hf
    cases hf
  | succ n_ ih =>
    intro v1 v2 v3 v4 σ H locs ls hf hP hS hl
    have hf : fcall (f_X5_size (b0 + 5) 12 4 σ) (fun r1_ σ1 => (if r1_ ≤ v4 then some (v3, σ1) else fcall (f_X5_at (b0 + 5) 12 4 v4 (3 : Int32) σ1) (fun r2_ σ2 => (if r2_ < v2 then f_X0_countBefore_b57 b0 (fun v1 v2 v3 v4 σ => f_X0_countBefore_b15 b0 n_ v1 v2 v3 v4 σ) (v1) (v2) (v3) (v4) σ2 else (if r2_ = v2 then (if v1 ≤ v4 then f_X0_countBefore_b60 b0 (fun v1 v2 v3 v4 σ => f_X0_countBefore_b15 b0 n_ v1 v2 v3 v4 σ) (v1) (v2) (v3) (v4) σ2 else f_X0_countBefore_b57 b0 (fun v1 v2 v3 v4 σ => f_X0_countBefore_b15 b0 n_ v1 v2 v3 v4 σ) (v1) (v2) (v3) (v4) σ2) else f_X0_countBefore_b60 b0 (fun v1 v2 v3 v4 σ => f_X0_countBefore_b15 b0 n_ v1 v2 v3 v4 σ) (v1) (v2) (v3) (v4) σ2))))) = some (r, σ') := hf
    have hK15 := ih
    refine lv_iload C.1 C.2.1 (kd kX0_countBefore_0 10 rfl) (lv_at hl 4 rfl) ?_
    refine lv_aload_n C.1 C.2.1 (kd kX0_countBefore_0 11 rfl) rfl (lv_at hl 0 rfl) ?_
    refine fl_get (j := 2) (v := .ref (Γ.1 (b0 + 5))) C hP (fe_P h0) (fD_lt h0) rfl inX3 (Nat.le_of_ble_eq_true rfl) tw_118 rfl (kd kX0_countBefore_0 12 rfl) ?_
    obtain ⟨r1_, σ1, hσ1, hf⟩ := fcall_some hf
    refine fl_i hS (fl_runV (As := []) (rest := [.int v4]) C hP (fe_T (fD_prt h0).2.2.1) (fD_lt (fD_prt h0).2.2.1) rfl (m_X5_size C.2.2.2.2.2.2.2.2 l (fD_prt h0).2.2.1 hσ1) (fgV tw_539 tw_414 tw_415 tw_69 tw_416) hd_X5_size ⟨rfl, rfl, Nat.le_of_ble_eq_true rfl, Nat.le_of_ble_eq_true rfl⟩ rfl hl.1 rfl (Nat.le_of_ble_eq_true rfl) (kd kX0_countBefore_0 13 rfl)) (fun H locs hP hS => ?_)
    refine lv_icmp_ge (tgt := 66) C.1 C.2.1 (kd kX0_countBefore_0 14 rfl) (by decide) (fun q => ?_) (fun q => ?_)
    · have hf := fif_pos q hf
      refine lv_iload_n C.1 C.2.1 (kd kX0_countBefore_0 33 rfl) rfl (lv_at hl 3 rfl) ?_
      exact fl_iret C hP hS hf (kd kX0_countBefore_0 34 rfl)
    have hf := fif_neg q hf
    refine lv_aload_n C.1 C.2.1 (kd kX0_countBefore_0 15 rfl) rfl (lv_at hl 0 rfl) ?_
    refine fl_get (j := 2) (v := .ref (Γ.1 (b0 + 5))) C hP (fe_P h0) (fD_lt h0) rfl inX3 (Nat.le_of_ble_eq_true rfl) tw_118 rfl (kd kX0_countBefore_0 16 rfl) ?_
    refine lv_iload C.1 C.2.1 (kd kX0_countBefore_0 17 rfl) (lv_at hl 4 rfl) ?_
    refine lv_iconst (v := (3 : Int32)) C.1 C.2.1 (kd kX0_countBefore_0 18 rfl) (by decide) ?_
    obtain ⟨r2_, σ2, hσ2, hf⟩ := fcall_some hf
    refine fl_i hS (fl_runV (As := [.int v4, .int (3 : Int32)]) (rest := []) C hP (fe_T (fD_prt h0).2.2.1) (fD_lt (fD_prt h0).2.2.1) rfl (m_X5_at C.2.2.2.2.2.2.2.2 l (fD_prt h0).2.2.1 hσ2) (fgV tw_543 tw_418 tw_419 tw_69 tw_420) hd_X5_at ⟨rfl, rfl, Nat.le_of_ble_eq_true rfl, Nat.le_of_ble_eq_true rfl⟩ rfl hl.1 rfl (Nat.le_of_ble_eq_true rfl) (kd kX0_countBefore_0 19 rfl)) (fun H locs hP hS => ?_)
    refine lv_istore (lv' := [(5, .int r2_), (0, .ref (Γ.1 b0)), (1, .int v1), (2, .int v2), (3, .int v3), (4, .int v4)]) C.1 C.2.1 (kd kX0_countBefore_0 20 rfl) hl (Nat.le_of_ble_eq_true rfl) rfl (fun ls hl => ?_)
    refine lv_iload C.1 C.2.1 (kd kX0_countBefore_0 21 rfl) (lv_at hl 0 rfl) ?_
    refine lv_iload_n C.1 C.2.1 (kd kX0_countBefore_0 22 rfl) rfl (lv_at hl 3 rfl) ?_
    refine lv_icmp_lt (tgt := 57) C.1 C.2.1 (kd kX0_countBefore_0 23 rfl) (by decide) (fun q => ?_) (fun q => ?_)
    · have hf := fif_pos q hf
      exact w_X0_countBefore_b57 h0 C hK15 (v1) (v2) (v3) (v4) σ2 H locs ls hf hP hS (lv_sub hl [1, 2, 3, 4, 5] rfl)
    have hf := fif_neg q hf
    refine lv_iload C.1 C.2.1 (kd kX0_countBefore_0 24 rfl) (lv_at hl 0 rfl) ?_
    refine lv_iload_n C.1 C.2.1 (kd kX0_countBefore_0 25 rfl) rfl (lv_at hl 3 rfl) ?_
    refine lv_icmp_ne (tgt := 60) C.1 C.2.1 (kd kX0_countBefore_0 26 rfl) (by decide) (fun q => ?_) (fun q => ?_)
    · have hf := fif_neg q hf
      exact w_X0_countBefore_b60 h0 C hK15 (v1) (v2) (v3) (v4) σ2 H locs ls hf hP hS (lv_sub hl [1, 2, 3, 4, 5] rfl)
    have hf := fif_pos q hf
    refine lv_iload C.1 C.2.1 (kd kX0_countBefore_0 27 rfl) (lv_at hl 5 rfl) ?_
    refine lv_iload_n C.1 C.2.1 (kd kX0_countBefore_0 28 rfl) rfl (lv_at hl 2 rfl) ?_
    refine lv_icmp_ge (tgt := 60) C.1 C.2.1 (kd kX0_countBefore_0 29 rfl) (by decide) (fun q => ?_) (fun q => ?_)
    · have hf := fif_pos q hf
      exact w_X0_countBefore_b60 h0 C hK15 (v1) (v2) (v3) (v4) σ2 H locs ls hf hP hS (lv_sub hl [1, 2, 3, 4, 5] rfl)
    have hf := fif_neg q hf
    exact w_X0_countBefore_b57 h0 C hK15 (v1) (v2) (v3) (v4) σ2 H locs ls hf hP hS (lv_sub hl [1, 2, 3, 4, 5] rfl)
def f_X0_countBefore (b0 : Nat) (x1 : Int32) (σ : fS) : Option (Int32 × fS) := fcall (f_X5_at (b0 + 5) 12 4 x1 (3 : Int32) σ) (fun r1_ σ1 => f_X0_countBefore_b15 b0 fN (x1) (r1_) ((0 : Int32)) ((0 : Int32)) σ1)
set_option maxRecDepth 100000 in
set_option maxHeartbeats 4000000 in
theorem m_X0_countBefore {Γ : fGm} (hI : fI Γ) (l : Launch) {b0 : Nat} {x1 : Int32} (h0 : fD b0 = (3, 0, 0)) {σ : fS} {r : Int32} {σ' : fS} (hf : f_X0_countBefore b0 x1 σ = some (r, σ')) : Met l yX0_countBefore (.code yX0_countBefore cX0_countBefore 6 (some .int) :: lw_g) ({ frames := 1, cells := 0, slots := 0, locals := 22 } : Room) (fPre Γ [.ref (Γ.1 b0), .int x1] σ) (fQi Γ r σ') 0 0 (fAd Γ) := by
  refine fl_enter (own := RX0) hI (by decide +kernel) rfl (Nat.le_of_ble_eq_true rfl) ?_
  intro p e s m args below meth c ls C hl hP hS
  have hl : lv_has ls 6 [(0, .ref (Γ.1 b0)), (1, .int x1)] := hl
  obtain ⟨H, hH⟩ : ∃ H, H = s.heap := ⟨_, rfl⟩
  obtain ⟨locs, hL⟩ : ∃ L : List Loc, L = [] := ⟨_, rfl⟩
  have hP : fH Γ σ H := by rw [hH]; exact hP
  have hS : va_S (fAd Γ) s.heap H locs := by rw [hH, hL]; exact hS
  suffices hw : W p l e ({ frames := 1, cells := 0, slots := 0, locals := 22 } : Room) s m args below meth c H locs 0 0 (MQ below (fQi Γ r σ') args s 0 0 (fAd Γ)) (F0 m 0 ls []) by rw [hH, hL] at hw; exact hw
  unfold f_X0_countBefore at hf
  refine lv_aload_n C.1 C.2.1 (kd kX0_countBefore_0 0 rfl) rfl (lv_at hl 0 rfl) ?_
  refine fl_get (j := 2) (v := .ref (Γ.1 (b0 + 5))) C hP (fe_P h0) (fD_lt h0) rfl inX3 (Nat.le_of_ble_eq_true rfl) tw_118 rfl (kd kX0_countBefore_0 1 rfl) ?_
  refine lv_iload_n C.1 C.2.1 (kd kX0_countBefore_0 2 rfl) rfl (lv_at hl 1 rfl) ?_
  refine lv_iconst (v := (3 : Int32)) C.1 C.2.1 (kd kX0_countBefore_0 3 rfl) (by decide) ?_
  obtain ⟨r1_, σ1, hσ1, hf⟩ := fcall_some hf
  refine fl_i hS (fl_runV (As := [.int x1, .int (3 : Int32)]) (rest := []) C hP (fe_T (fD_prt h0).2.2.1) (fD_lt (fD_prt h0).2.2.1) rfl (m_X5_at C.2.2.2.2.2.2.2.2 l (fD_prt h0).2.2.1 hσ1) (fgV tw_543 tw_418 tw_419 tw_69 tw_420) hd_X5_at ⟨rfl, rfl, Nat.le_of_ble_eq_true rfl, Nat.le_of_ble_eq_true rfl⟩ rfl hl.1 rfl (Nat.le_of_ble_eq_true rfl) (kd kX0_countBefore_0 4 rfl)) (fun H locs hP hS => ?_)
  refine lv_istore_n (lv' := [(2, .int r1_), (0, .ref (Γ.1 b0)), (1, .int x1)]) C.1 C.2.1 (kd kX0_countBefore_0 5 rfl) rfl hl (Nat.le_of_ble_eq_true rfl) rfl (fun ls hl => ?_)
  refine lv_iconst (v := (0 : Int32)) C.1 C.2.1 (kd kX0_countBefore_0 6 rfl) (by decide) ?_
  refine lv_istore_n (lv' := [(3, .int (0 : Int32)), (2, .int r1_), (0, .ref (Γ.1 b0)), (1, .int x1)]) C.1 C.2.1 (kd kX0_countBefore_0 7 rfl) rfl hl (Nat.le_of_ble_eq_true rfl) rfl (fun ls hl => ?_)
  refine lv_iconst (v := (0 : Int32)) C.1 C.2.1 (kd kX0_countBefore_0 8 rfl) (by decide) ?_
  refine lv_istore (lv' := [(4, .int (0 : Int32)), (3, .int (0 : Int32)), (2, .int r1_), (0, .ref (Γ.1 b0)), (1, .int x1)]) C.1 C.2.1 (kd kX0_countBefore_0 9 rfl) hl (Nat.le_of_ble_eq_true rfl) rfl (fun ls hl => ?_)
  exact w_X0_countBefore_b15 h0 C fN (x1) (r1_) ((0 : Int32)) ((0 : Int32)) σ1 H locs ls hf hP hS (lv_sub hl [3, 4, 2, 1, 0] rfl)
def f_X0_strongWind (b0 : Nat) (x1 : Int32) (σ : fS) : Option (Int32 × fS) := fcall (f_X5_at (b0 + 5) 12 4 x1 (3 : Int32) σ) (fun r1_ σ1 => fcall (f_X3_windAt b0 r1_ σ1) (fun r2_ σ2 => fcall (f_X3_windLimitOf b0 x1 σ2) (fun r3_ σ3 => (if r2_ ≤ r3_ then some ((-10004 : Int32), σ3) else some (r2_, σ3)))))
set_option maxRecDepth 100000 in
set_option maxHeartbeats 4000000 in
theorem m_X0_strongWind {Γ : fGm} (hI : fI Γ) (l : Launch) {b0 : Nat} {x1 : Int32} (h0 : fD b0 = (3, 0, 0)) {σ : fS} {r : Int32} {σ' : fS} (hf : f_X0_strongWind b0 x1 σ = some (r, σ')) : Met l yX0_strongWind (.code yX0_strongWind cX0_strongWind 3 (some .int) :: lw_g) ({ frames := 2, cells := 0, slots := 0, locals := 43 } : Room) (fPre Γ [.ref (Γ.1 b0), .int x1] σ) (fQi Γ r σ') 0 0 (fAd Γ) := by
  refine fl_enter (own := RX0) hI (by decide +kernel) rfl (Nat.le_of_ble_eq_true rfl) ?_
  intro p e s m args below meth c ls C hl hP hS
  have hl : lv_has ls 3 [(0, .ref (Γ.1 b0)), (1, .int x1)] := hl
  obtain ⟨H, hH⟩ : ∃ H, H = s.heap := ⟨_, rfl⟩
  obtain ⟨locs, hL⟩ : ∃ L : List Loc, L = [] := ⟨_, rfl⟩
  have hP : fH Γ σ H := by rw [hH]; exact hP
  have hS : va_S (fAd Γ) s.heap H locs := by rw [hH, hL]; exact hS
  suffices hw : W p l e ({ frames := 2, cells := 0, slots := 0, locals := 43 } : Room) s m args below meth c H locs 0 0 (MQ below (fQi Γ r σ') args s 0 0 (fAd Γ)) (F0 m 0 ls []) by rw [hH, hL] at hw; exact hw
  unfold f_X0_strongWind at hf
  refine lv_aload_n C.1 C.2.1 (kd kX0_strongWind_0 0 rfl) rfl (lv_at hl 0 rfl) ?_
  refine lv_aload_n C.1 C.2.1 (kd kX0_strongWind_0 1 rfl) rfl (lv_at hl 0 rfl) ?_
  refine fl_get (j := 2) (v := .ref (Γ.1 (b0 + 5))) C hP (fe_P h0) (fD_lt h0) rfl inX3 (Nat.le_of_ble_eq_true rfl) tw_118 rfl (kd kX0_strongWind_0 2 rfl) ?_
  refine lv_iload_n C.1 C.2.1 (kd kX0_strongWind_0 3 rfl) rfl (lv_at hl 1 rfl) ?_
  refine lv_iconst (v := (3 : Int32)) C.1 C.2.1 (kd kX0_strongWind_0 4 rfl) (by decide) ?_
  obtain ⟨r1_, σ1, hσ1, hf⟩ := fcall_some hf
  refine fl_i hS (fl_runV (As := [.int x1, .int (3 : Int32)]) (rest := [.ref (Γ.1 b0)]) C hP (fe_T (fD_prt h0).2.2.1) (fD_lt (fD_prt h0).2.2.1) rfl (m_X5_at C.2.2.2.2.2.2.2.2 l (fD_prt h0).2.2.1 hσ1) (fgV tw_543 tw_418 tw_419 tw_69 tw_420) hd_X5_at ⟨rfl, rfl, Nat.le_of_ble_eq_true rfl, Nat.le_of_ble_eq_true rfl⟩ rfl hl.1 rfl (Nat.le_of_ble_eq_true rfl) (kd kX0_strongWind_0 5 rfl)) (fun H locs hP hS => ?_)
  obtain ⟨r2_, σ2, hσ2, hf⟩ := fcall_some hf
  refine fl_i hS (fl_runV (As := [.int r1_]) (rest := []) C hP (fe_P h0) (fD_lt h0) rfl (m_X3_windAt C.2.2.2.2.2.2.2.2 l h0 hσ2) (fgV tw_551 tw_552 tw_553 tw_68 tw_554) hd_X3_windAt ⟨rfl, rfl, Nat.le_of_ble_eq_true rfl, Nat.le_of_ble_eq_true rfl⟩ rfl hl.1 rfl (Nat.le_of_ble_eq_true rfl) (kd kX0_strongWind_0 6 rfl)) (fun H locs hP hS => ?_)
  refine lv_istore_n (lv' := [(2, .int r2_), (0, .ref (Γ.1 b0)), (1, .int x1)]) C.1 C.2.1 (kd kX0_strongWind_0 7 rfl) rfl hl (Nat.le_of_ble_eq_true rfl) rfl (fun ls hl => ?_)
  refine lv_iload_n C.1 C.2.1 (kd kX0_strongWind_0 8 rfl) rfl (lv_at hl 0 rfl) ?_
  refine lv_aload_n C.1 C.2.1 (kd kX0_strongWind_0 9 rfl) rfl (lv_at hl 1 rfl) ?_
  refine lv_iload_n C.1 C.2.1 (kd kX0_strongWind_0 10 rfl) rfl (lv_at hl 2 rfl) ?_
  obtain ⟨r3_, σ3, hσ3, hf⟩ := fcall_some hf
  refine fl_i hS (fl_runV (As := [.int x1]) (rest := [.int r2_]) C hP (fe_P h0) (fD_lt h0) rfl (m_X3_windLimitOf C.2.2.2.2.2.2.2.2 l h0 hσ3) (fgV tw_555 tw_556 tw_557 tw_68 tw_558) hd_X3_windLimitOf ⟨rfl, rfl, Nat.le_of_ble_eq_true rfl, Nat.le_of_ble_eq_true rfl⟩ rfl hl.1 rfl (Nat.le_of_ble_eq_true rfl) (kd kX0_strongWind_0 11 rfl)) (fun H locs hP hS => ?_)
  refine lv_icmp_le (tgt := 27) C.1 C.2.1 (kd kX0_strongWind_0 12 rfl) (by decide) (fun q => ?_) (fun q => ?_)
  · have hf := fif_pos q hf
    refine lv_sipush (v := (-10004 : Int32)) C.1 C.2.1 (kd kX0_strongWind_0 15 rfl) (by decide) ?_
    exact fl_iret C hP hS hf (kd kX0_strongWind_0 16 rfl)
  have hf := fif_neg q hf
  refine lv_iload_n C.1 C.2.1 (kd kX0_strongWind_0 13 rfl) rfl (lv_at hl 0 rfl) ?_
  refine lv_goto (tgt := 30) C.1 C.2.1 (kd kX0_strongWind_0 14 rfl) (by decide) ?_
  exact fl_iret C hP hS hf (kd kX0_strongWind_0 16 rfl)
def f_X0_firstShallowTime_b68 (b0 : Nat) : Nat → Int32 → Int32 → Int32 → Int32 → fS → Option (Int32 × fS)
  | 0, _, _, _, _, _ => none
  | n_ + 1, v2, v3, v5, v6, σ => (if v5 ≤ v6 then fcall (f_X3_isDeepEnough b0 v3 v2 v5 σ) (fun r1_ σ1 => (if r1_ = 0 then some (v5, σ1) else some ((-10004 : Int32), σ1))) else fcall (f_X3_isDeepEnough b0 v3 v2 v6 σ) (fun r2_ σ2 => (if r2_ = 0 then some (v6, σ2) else (fun v2 v3 v5 v6 σ => f_X0_firstShallowTime_b68 b0 n_ v2 v3 v5 v6 σ) (v2) (v3) (v5) ((v6 + (60 : Int32))) σ2)))
set_option maxRecDepth 100000 in
set_option maxHeartbeats 4000000 in
theorem w_X0_firstShallowTime_b68 {b0 : Nat} {r : Int32} {σ' : fS} (h0 : fD b0 = (3, 0, 0))  (C : fC Γ p s m args meth c cX0_firstShallowTime (some .int) RX0 7) : ∀ (n_ : Nat) (v2 : Int32) (v3 : Int32) (v5 : Int32) (v6 : Int32) (σ : fS) (H : Heap) (locs : List Loc) (ls : Array Slot), f_X0_firstShallowTime_b68 b0 n_ v2 v3 v5 v6 σ = some (r, σ') → fH Γ σ H → va_S (fAd Γ) s.heap H locs → lv_has ls 7 [(0, .ref (Γ.1 b0)), (2, .int v2), (3, .int v3), (5, .int v5), (6, .int v6)] → W p l e ({ frames := 4, cells := 0, slots := 0, locals := 91 } : Room) s m args below meth c H locs 0 0 (MQ below (fQi Γ r σ') args s 0 0 (fAd Γ)) (F0 m 68 ls []) := by
  intro n_
  induction n_ with
  | zero =>
    intro v2 v3 v5 v6 σ H locs ls hf
    cases hf
  | succ n_ ih =>
    intro v2 v3 v5 v6 σ H locs ls hf hP hS hl
    have hf : (if v5 ≤ v6 then fcall (f_X3_isDeepEnough b0 v3 v2 v5 σ) (fun r1_ σ1 => (if r1_ = 0 then some (v5, σ1) else some ((-10004 : Int32), σ1))) else fcall (f_X3_isDeepEnough b0 v3 v2 v6 σ) (fun r2_ σ2 => (if r2_ = 0 then some (v6, σ2) else (fun v2 v3 v5 v6 σ => f_X0_firstShallowTime_b68 b0 n_ v2 v3 v5 v6 σ) (v2) (v3) (v5) ((v6 + (60 : Int32))) σ2))) = some (r, σ') := hf
    have hK68 := ih
    refine lv_iload C.1 C.2.1 (kd kX0_firstShallowTime_0 40 rfl) (lv_at hl 4 rfl) ?_
    refine lv_iload C.1 C.2.1 (kd kX0_firstShallowTime_0 41 rfl) (lv_at hl 3 rfl) ?_
    refine lv_icmp_ge (tgt := 95) C.1 C.2.1 (kd kX0_firstShallowTime_0 42 rfl) (by decide) (fun q => ?_) (fun q => ?_)
    · have hf := fif_pos q hf
      refine lv_aload_n C.1 C.2.1 (kd kX0_firstShallowTime_0 53 rfl) rfl (lv_at hl 0 rfl) ?_
      refine lv_iload_n C.1 C.2.1 (kd kX0_firstShallowTime_0 54 rfl) rfl (lv_at hl 2 rfl) ?_
      refine lv_iload_n C.1 C.2.1 (kd kX0_firstShallowTime_0 55 rfl) rfl (lv_at hl 1 rfl) ?_
      refine lv_iload C.1 C.2.1 (kd kX0_firstShallowTime_0 56 rfl) (lv_at hl 3 rfl) ?_
      obtain ⟨r1_, σ1, hσ1, hf⟩ := fcall_some hf
      refine fl_i hS (fl_runV (As := [.int v3, .int v2, .int v5]) (rest := []) C hP (fe_P h0) (fD_lt h0) rfl (m_X3_isDeepEnough C.2.2.2.2.2.2.2.2 l h0 hσ1) (fgV tw_562 tw_563 tw_564 tw_68 tw_565) hd_X3_isDeepEnough ⟨rfl, rfl, Nat.le_of_ble_eq_true rfl, Nat.le_of_ble_eq_true rfl⟩ rfl hl.1 rfl (Nat.le_of_ble_eq_true rfl) (kd kX0_firstShallowTime_0 57 rfl)) (fun H locs hP hS => ?_)
      refine lv_if_eq (tgt := 112) C.1 C.2.1 (kd kX0_firstShallowTime_0 58 rfl) (by decide) (fun q => ?_) (fun q => ?_)
      · have hf := fif_pos q hf
        refine lv_iload C.1 C.2.1 (kd kX0_firstShallowTime_1 1 rfl) (lv_at hl 3 rfl) ?_
        exact fl_iret C hP hS hf (kd kX0_firstShallowTime_1 2 rfl)
      have hf := fif_neg q hf
      refine lv_sipush (v := (-10004 : Int32)) C.1 C.2.1 (kd kX0_firstShallowTime_0 59 rfl) (by decide) ?_
      refine lv_goto (tgt := 114) C.1 C.2.1 (kd kX0_firstShallowTime_1 0 rfl) (by decide) ?_
      exact fl_iret C hP hS hf (kd kX0_firstShallowTime_1 2 rfl)
    have hf := fif_neg q hf
    refine lv_aload_n C.1 C.2.1 (kd kX0_firstShallowTime_0 43 rfl) rfl (lv_at hl 0 rfl) ?_
    refine lv_iload_n C.1 C.2.1 (kd kX0_firstShallowTime_0 44 rfl) rfl (lv_at hl 2 rfl) ?_
    refine lv_iload_n C.1 C.2.1 (kd kX0_firstShallowTime_0 45 rfl) rfl (lv_at hl 1 rfl) ?_
    refine lv_iload C.1 C.2.1 (kd kX0_firstShallowTime_0 46 rfl) (lv_at hl 4 rfl) ?_
    obtain ⟨r2_, σ2, hσ2, hf⟩ := fcall_some hf
    refine fl_i hS (fl_runV (As := [.int v3, .int v2, .int v6]) (rest := []) C hP (fe_P h0) (fD_lt h0) rfl (m_X3_isDeepEnough C.2.2.2.2.2.2.2.2 l h0 hσ2) (fgV tw_562 tw_563 tw_564 tw_68 tw_565) hd_X3_isDeepEnough ⟨rfl, rfl, Nat.le_of_ble_eq_true rfl, Nat.le_of_ble_eq_true rfl⟩ rfl hl.1 rfl (Nat.le_of_ble_eq_true rfl) (kd kX0_firstShallowTime_0 47 rfl)) (fun H locs hP hS => ?_)
    refine lv_if_ne (tgt := 89) C.1 C.2.1 (kd kX0_firstShallowTime_0 48 rfl) (by decide) (fun q => ?_) (fun q => ?_)
    · have hf := fif_neg q hf
      refine lv_iinc (v := (v6 + (60 : Int32))) (lv' := [(6, .int (v6 + (60 : Int32))), (0, .ref (Γ.1 b0)), (2, .int v2), (3, .int v3), (5, .int v5)]) C.1 C.2.1 (kd kX0_firstShallowTime_0 51 rfl) hl (k := 4) rfl rfl (Nat.le_of_ble_eq_true rfl) rfl (fun ls hl => ?_)
      refine lv_goto (tgt := 68) C.1 C.2.1 (kd kX0_firstShallowTime_0 52 rfl) (by decide) ?_
      exact hK68 (v2) (v3) (v5) ((v6 + (60 : Int32))) σ2 H locs ls hf hP hS (lv_sub hl [1, 2, 3, 4, 0] rfl)
    have hf := fif_pos q hf
    refine lv_iload C.1 C.2.1 (kd kX0_firstShallowTime_0 49 rfl) (lv_at hl 4 rfl) ?_
    exact fl_iret C hP hS hf (kd kX0_firstShallowTime_0 50 rfl)
def f_X0_firstShallowTime (b0 : Nat) (x1 : Int32) (σ : fS) : Option (Int32 × fS) := fcall (f_X5_at (b0 + 5) 12 4 x1 (0 : Int32) σ) (fun r1_ σ1 => fcall (f_X5_at (b0 + 5) 12 4 x1 (1 : Int32) σ1) (fun r2_ σ2 => fcall (f_X5_at (b0 + 5) 12 4 x1 (2 : Int32) σ2) (fun r3_ σ3 => fcall (f_X5_at (b0 + 5) 12 4 x1 (3 : Int32) σ3) (fun r4_ σ4 => fcall (f_X3_isDeepEnough b0 r2_ r1_ r3_ σ4) (fun r5_ σ5 => (if r5_ = 0 then some (r3_, σ5) else f_X0_firstShallowTime_b68 b0 fN (r1_) (r2_) (r4_) ((((r3_ / (60 : Int32)) + (1 : Int32)) * (60 : Int32))) σ5))))))
set_option maxRecDepth 100000 in
set_option maxHeartbeats 4000000 in
theorem m_X0_firstShallowTime {Γ : fGm} (hI : fI Γ) (l : Launch) {b0 : Nat} {x1 : Int32} (h0 : fD b0 = (3, 0, 0)) {σ : fS} {r : Int32} {σ' : fS} (hf : f_X0_firstShallowTime b0 x1 σ = some (r, σ')) : Met l yX0_firstShallowTime (.code yX0_firstShallowTime cX0_firstShallowTime 7 (some .int) :: lw_g) ({ frames := 4, cells := 0, slots := 0, locals := 91 } : Room) (fPre Γ [.ref (Γ.1 b0), .int x1] σ) (fQi Γ r σ') 0 0 (fAd Γ) := by
  refine fl_enter (own := RX0) hI (by decide +kernel) rfl (Nat.le_of_ble_eq_true rfl) ?_
  intro p e s m args below meth c ls C hl hP hS
  have hl : lv_has ls 7 [(0, .ref (Γ.1 b0)), (1, .int x1)] := hl
  obtain ⟨H, hH⟩ : ∃ H, H = s.heap := ⟨_, rfl⟩
  obtain ⟨locs, hL⟩ : ∃ L : List Loc, L = [] := ⟨_, rfl⟩
  have hP : fH Γ σ H := by rw [hH]; exact hP
  have hS : va_S (fAd Γ) s.heap H locs := by rw [hH, hL]; exact hS
  suffices hw : W p l e ({ frames := 4, cells := 0, slots := 0, locals := 91 } : Room) s m args below meth c H locs 0 0 (MQ below (fQi Γ r σ') args s 0 0 (fAd Γ)) (F0 m 0 ls []) by rw [hH, hL] at hw; exact hw
  unfold f_X0_firstShallowTime at hf
  refine lv_aload_n C.1 C.2.1 (kd kX0_firstShallowTime_0 0 rfl) rfl (lv_at hl 0 rfl) ?_
  refine fl_get (j := 2) (v := .ref (Γ.1 (b0 + 5))) C hP (fe_P h0) (fD_lt h0) rfl inX3 (Nat.le_of_ble_eq_true rfl) tw_118 rfl (kd kX0_firstShallowTime_0 1 rfl) ?_
  refine lv_iload_n C.1 C.2.1 (kd kX0_firstShallowTime_0 2 rfl) rfl (lv_at hl 1 rfl) ?_
  refine lv_iconst (v := (0 : Int32)) C.1 C.2.1 (kd kX0_firstShallowTime_0 3 rfl) (by decide) ?_
  obtain ⟨r1_, σ1, hσ1, hf⟩ := fcall_some hf
  refine fl_i hS (fl_runV (As := [.int x1, .int (0 : Int32)]) (rest := []) C hP (fe_T (fD_prt h0).2.2.1) (fD_lt (fD_prt h0).2.2.1) rfl (m_X5_at C.2.2.2.2.2.2.2.2 l (fD_prt h0).2.2.1 hσ1) (fgV tw_543 tw_418 tw_419 tw_69 tw_420) hd_X5_at ⟨rfl, rfl, Nat.le_of_ble_eq_true rfl, Nat.le_of_ble_eq_true rfl⟩ rfl hl.1 rfl (Nat.le_of_ble_eq_true rfl) (kd kX0_firstShallowTime_0 4 rfl)) (fun H locs hP hS => ?_)
  refine lv_istore_n (lv' := [(2, .int r1_), (0, .ref (Γ.1 b0)), (1, .int x1)]) C.1 C.2.1 (kd kX0_firstShallowTime_0 5 rfl) rfl hl (Nat.le_of_ble_eq_true rfl) rfl (fun ls hl => ?_)
  refine lv_aload_n C.1 C.2.1 (kd kX0_firstShallowTime_0 6 rfl) rfl (lv_at hl 1 rfl) ?_
  refine fl_get (j := 2) (v := .ref (Γ.1 (b0 + 5))) C hP (fe_P h0) (fD_lt h0) rfl inX3 (Nat.le_of_ble_eq_true rfl) tw_118 rfl (kd kX0_firstShallowTime_0 7 rfl) ?_
  refine lv_iload_n C.1 C.2.1 (kd kX0_firstShallowTime_0 8 rfl) rfl (lv_at hl 2 rfl) ?_
  refine lv_iconst (v := (1 : Int32)) C.1 C.2.1 (kd kX0_firstShallowTime_0 9 rfl) (by decide) ?_
  obtain ⟨r2_, σ2, hσ2, hf⟩ := fcall_some hf
  refine fl_i hS (fl_runV (As := [.int x1, .int (1 : Int32)]) (rest := []) C hP (fe_T (fD_prt h0).2.2.1) (fD_lt (fD_prt h0).2.2.1) rfl (m_X5_at C.2.2.2.2.2.2.2.2 l (fD_prt h0).2.2.1 hσ2) (fgV tw_543 tw_418 tw_419 tw_69 tw_420) hd_X5_at ⟨rfl, rfl, Nat.le_of_ble_eq_true rfl, Nat.le_of_ble_eq_true rfl⟩ rfl hl.1 rfl (Nat.le_of_ble_eq_true rfl) (kd kX0_firstShallowTime_0 10 rfl)) (fun H locs hP hS => ?_)
  refine lv_istore_n (lv' := [(3, .int r2_), (2, .int r1_), (0, .ref (Γ.1 b0)), (1, .int x1)]) C.1 C.2.1 (kd kX0_firstShallowTime_0 11 rfl) rfl hl (Nat.le_of_ble_eq_true rfl) rfl (fun ls hl => ?_)
  refine lv_aload_n C.1 C.2.1 (kd kX0_firstShallowTime_0 12 rfl) rfl (lv_at hl 2 rfl) ?_
  refine fl_get (j := 2) (v := .ref (Γ.1 (b0 + 5))) C hP (fe_P h0) (fD_lt h0) rfl inX3 (Nat.le_of_ble_eq_true rfl) tw_118 rfl (kd kX0_firstShallowTime_0 13 rfl) ?_
  refine lv_iload_n C.1 C.2.1 (kd kX0_firstShallowTime_0 14 rfl) rfl (lv_at hl 3 rfl) ?_
  refine lv_iconst (v := (2 : Int32)) C.1 C.2.1 (kd kX0_firstShallowTime_0 15 rfl) (by decide) ?_
  obtain ⟨r3_, σ3, hσ3, hf⟩ := fcall_some hf
  refine fl_i hS (fl_runV (As := [.int x1, .int (2 : Int32)]) (rest := []) C hP (fe_T (fD_prt h0).2.2.1) (fD_lt (fD_prt h0).2.2.1) rfl (m_X5_at C.2.2.2.2.2.2.2.2 l (fD_prt h0).2.2.1 hσ3) (fgV tw_543 tw_418 tw_419 tw_69 tw_420) hd_X5_at ⟨rfl, rfl, Nat.le_of_ble_eq_true rfl, Nat.le_of_ble_eq_true rfl⟩ rfl hl.1 rfl (Nat.le_of_ble_eq_true rfl) (kd kX0_firstShallowTime_0 16 rfl)) (fun H locs hP hS => ?_)
  refine lv_istore (lv' := [(4, .int r3_), (3, .int r2_), (2, .int r1_), (0, .ref (Γ.1 b0)), (1, .int x1)]) C.1 C.2.1 (kd kX0_firstShallowTime_0 17 rfl) hl (Nat.le_of_ble_eq_true rfl) rfl (fun ls hl => ?_)
  refine lv_aload_n C.1 C.2.1 (kd kX0_firstShallowTime_0 18 rfl) rfl (lv_at hl 3 rfl) ?_
  refine fl_get (j := 2) (v := .ref (Γ.1 (b0 + 5))) C hP (fe_P h0) (fD_lt h0) rfl inX3 (Nat.le_of_ble_eq_true rfl) tw_118 rfl (kd kX0_firstShallowTime_0 19 rfl) ?_
  refine lv_iload_n C.1 C.2.1 (kd kX0_firstShallowTime_0 20 rfl) rfl (lv_at hl 4 rfl) ?_
  refine lv_iconst (v := (3 : Int32)) C.1 C.2.1 (kd kX0_firstShallowTime_0 21 rfl) (by decide) ?_
  obtain ⟨r4_, σ4, hσ4, hf⟩ := fcall_some hf
  refine fl_i hS (fl_runV (As := [.int x1, .int (3 : Int32)]) (rest := []) C hP (fe_T (fD_prt h0).2.2.1) (fD_lt (fD_prt h0).2.2.1) rfl (m_X5_at C.2.2.2.2.2.2.2.2 l (fD_prt h0).2.2.1 hσ4) (fgV tw_543 tw_418 tw_419 tw_69 tw_420) hd_X5_at ⟨rfl, rfl, Nat.le_of_ble_eq_true rfl, Nat.le_of_ble_eq_true rfl⟩ rfl hl.1 rfl (Nat.le_of_ble_eq_true rfl) (kd kX0_firstShallowTime_0 22 rfl)) (fun H locs hP hS => ?_)
  refine lv_istore (lv' := [(5, .int r4_), (4, .int r3_), (3, .int r2_), (2, .int r1_), (0, .ref (Γ.1 b0)), (1, .int x1)]) C.1 C.2.1 (kd kX0_firstShallowTime_0 23 rfl) hl (Nat.le_of_ble_eq_true rfl) rfl (fun ls hl => ?_)
  refine lv_aload_n C.1 C.2.1 (kd kX0_firstShallowTime_0 24 rfl) rfl (lv_at hl 4 rfl) ?_
  refine lv_iload_n C.1 C.2.1 (kd kX0_firstShallowTime_0 25 rfl) rfl (lv_at hl 2 rfl) ?_
  refine lv_iload_n C.1 C.2.1 (kd kX0_firstShallowTime_0 26 rfl) rfl (lv_at hl 3 rfl) ?_
  refine lv_iload C.1 C.2.1 (kd kX0_firstShallowTime_0 27 rfl) (lv_at hl 1 rfl) ?_
  obtain ⟨r5_, σ5, hσ5, hf⟩ := fcall_some hf
  refine fl_i hS (fl_runV (As := [.int r2_, .int r1_, .int r3_]) (rest := []) C hP (fe_P h0) (fD_lt h0) rfl (m_X3_isDeepEnough C.2.2.2.2.2.2.2.2 l h0 hσ5) (fgV tw_562 tw_563 tw_564 tw_68 tw_565) hd_X3_isDeepEnough ⟨rfl, rfl, Nat.le_of_ble_eq_true rfl, Nat.le_of_ble_eq_true rfl⟩ rfl hl.1 rfl (Nat.le_of_ble_eq_true rfl) (kd kX0_firstShallowTime_0 28 rfl)) (fun H locs hP hS => ?_)
  refine lv_if_ne (tgt := 56) C.1 C.2.1 (kd kX0_firstShallowTime_0 29 rfl) (by decide) (fun q => ?_) (fun q => ?_)
  · have hf := fif_neg q hf
    refine lv_iload C.1 C.2.1 (kd kX0_firstShallowTime_0 32 rfl) (lv_at hl 1 rfl) ?_
    refine lv_bipush (v := (60 : Int32)) C.1 C.2.1 (kd kX0_firstShallowTime_0 33 rfl) (by decide) ?_
    refine lv_idiv C.1 C.2.1 (kd kX0_firstShallowTime_0 34 rfl) (by decide) ?_
    refine lv_iconst (v := (1 : Int32)) C.1 C.2.1 (kd kX0_firstShallowTime_0 35 rfl) (by decide) ?_
    refine lv_iadd C.1 C.2.1 (kd kX0_firstShallowTime_0 36 rfl) ?_
    refine lv_bipush (v := (60 : Int32)) C.1 C.2.1 (kd kX0_firstShallowTime_0 37 rfl) (by decide) ?_
    refine lv_imul C.1 C.2.1 (kd kX0_firstShallowTime_0 38 rfl) ?_
    refine lv_istore (lv' := [(6, .int (((r3_ / (60 : Int32)) + (1 : Int32)) * (60 : Int32))), (5, .int r4_), (4, .int r3_), (3, .int r2_), (2, .int r1_), (0, .ref (Γ.1 b0)), (1, .int x1)]) C.1 C.2.1 (kd kX0_firstShallowTime_0 39 rfl) hl (Nat.le_of_ble_eq_true rfl) rfl (fun ls hl => ?_)
    exact w_X0_firstShallowTime_b68 h0 C fN (r1_) (r2_) (r4_) ((((r3_ / (60 : Int32)) + (1 : Int32)) * (60 : Int32))) σ5 H locs ls hf hP hS (lv_sub hl [5, 4, 3, 1, 0] rfl)
  have hf := fif_pos q hf
  refine lv_iload C.1 C.2.1 (kd kX0_firstShallowTime_0 30 rfl) (lv_at hl 1 rfl) ?_
  exact fl_iret C hP hS hf (kd kX0_firstShallowTime_0 31 rfl)
def f_X0_sails (x1 : Int32) (σ : fS) : Option (Int32 × fS) := fb x1 12 ((if (σ 141 x1.toNatClampNeg) = 0 then some ((1 : Int32), σ) else some ((0 : Int32), σ)))
set_option maxRecDepth 100000 in
set_option maxHeartbeats 4000000 in
theorem m_X0_sails {Γ : fGm} (hI : fI Γ) (l : Launch) {x1 : Int32} {σ : fS} {r : Int32} {σ' : fS} (hf : f_X0_sails x1 σ = some (r, σ')) : Met l yX0_sails (.code yX0_sails cX0_sails 2 (some .boolean) :: lw_g) ({ frames := 0, cells := 0, slots := 0, locals := 0 } : Room) (fPre Γ [.ref (Γ.1 138), .int x1] σ) (fQi Γ r σ') 0 0 (fAd Γ) := by
  refine fl_enter (own := RX0) hI (by decide +kernel) rfl (Nat.le_of_ble_eq_true rfl) ?_
  intro p e s m args below meth c ls C hl hP hS
  have hl : lv_has ls 2 [(0, .ref (Γ.1 138)), (1, .int x1)] := hl
  obtain ⟨H, hH⟩ : ∃ H, H = s.heap := ⟨_, rfl⟩
  obtain ⟨locs, hL⟩ : ∃ L : List Loc, L = [] := ⟨_, rfl⟩
  have hP : fH Γ σ H := by rw [hH]; exact hP
  have hS : va_S (fAd Γ) s.heap H locs := by rw [hH, hL]; exact hS
  suffices hw : W p l e ({ frames := 0, cells := 0, slots := 0, locals := 0 } : Room) s m args below meth c H locs 0 0 (MQ below (fQi Γ r σ') args s 0 0 (fAd Γ)) (F0 m 0 ls []) by rw [hH, hL] at hw; exact hw
  unfold f_X0_sails at hf
  refine lv_aload_n C.1 C.2.1 (kd kX0_sails_0 0 rfl) rfl (lv_at hl 0 rfl) ?_
  refine fl_get (j := 2) (v := .ref (Γ.1 141)) C hP rfl (Nat.le_of_ble_eq_true rfl) rfl inX0 (Nat.le_of_ble_eq_true rfl) tw_179 rfl (kd kX0_sails_0 1 rfl) ?_
  refine lv_iload_n C.1 C.2.1 (kd kX0_sails_0 2 rfl) rfl (lv_at hl 1 rfl) ?_
  obtain ⟨hq, hf⟩ := fb_some hf
  refine fl_iald C hP rfl hq (kd kX0_sails_0 3 rfl) ?_
  refine lv_if_ne (tgt := 13) C.1 C.2.1 (kd kX0_sails_0 4 rfl) (by decide) (fun q => ?_) (fun q => ?_)
  · have hf := fif_neg q hf
    refine lv_iconst (v := (0 : Int32)) C.1 C.2.1 (kd kX0_sails_0 7 rfl) (by decide) ?_
    exact fl_zret C hP hS rfl hf (kd kX0_sails_0 8 rfl)
  have hf := fif_pos q hf
  refine lv_iconst (v := (1 : Int32)) C.1 C.2.1 (kd kX0_sails_0 5 rfl) (by decide) ?_
  refine lv_goto (tgt := 14) C.1 C.2.1 (kd kX0_sails_0 6 rfl) (by decide) ?_
  exact fl_zret C hP hS rfl hf (kd kX0_sails_0 8 rfl)
def f_X0_firstInTheWay_b127 (b1 : Nat) (K35 : Int32 → Int32 → Int32 → Int32 → Int32 → Int32 → fS → Option (Int32 × fS)) (v2 : Int32) (v3 : Int32) (v4 : Int32) (v5 : Int32) (v6 : Int32) (v7 : Int32) (σ : fS) : Option (Int32 × fS) := K35 (v2) (v3) (v4) (v5) (v6) ((v7 + (1 : Int32))) σ
set_option maxRecDepth 100000 in
set_option maxHeartbeats 4000000 in
theorem w_X0_firstInTheWay_b127 {b1 : Nat} {r : Int32} {σ' : fS} {K35 : Int32 → Int32 → Int32 → Int32 → Int32 → Int32 → fS → Option (Int32 × fS)} (h1 : fD b1 = (3, 0, 0))  (C : fC Γ p s m args meth c cX0_firstInTheWay (some .int) RX0 10) (hK35 : ∀ (v2 : Int32) (v3 : Int32) (v4 : Int32) (v5 : Int32) (v6 : Int32) (v7 : Int32) (σ : fS) (H : Heap) (locs : List Loc) (ls : Array Slot), K35 v2 v3 v4 v5 v6 v7 σ = some (r, σ') → fH Γ σ H → va_S (fAd Γ) s.heap H locs → lv_has ls 10 [(0, .ref (Γ.1 138)), (1, .ref (Γ.1 b1)), (2, .int v2), (3, .int v3), (4, .int v4), (5, .int v5), (6, .int v6), (7, .int v7)] → W p l e ({ frames := 1, cells := 0, slots := 0, locals := 22 } : Room) s m args below meth c H locs 0 0 (MQ below (fQi Γ r σ') args s 0 0 (fAd Γ)) (F0 m 35 ls [])) : ∀ (v2 : Int32) (v3 : Int32) (v4 : Int32) (v5 : Int32) (v6 : Int32) (v7 : Int32) (σ : fS) (H : Heap) (locs : List Loc) (ls : Array Slot), f_X0_firstInTheWay_b127 b1 K35 v2 v3 v4 v5 v6 v7 σ = some (r, σ') → fH Γ σ H → va_S (fAd Γ) s.heap H locs → lv_has ls 10 [(0, .ref (Γ.1 138)), (1, .ref (Γ.1 b1)), (2, .int v2), (3, .int v3), (4, .int v4), (5, .int v5), (6, .int v6), (7, .int v7)] → W p l e ({ frames := 1, cells := 0, slots := 0, locals := 22 } : Room) s m args below meth c H locs 0 0 (MQ below (fQi Γ r σ') args s 0 0 (fAd Γ)) (F0 m 127 ls []) := by
  intro v2 v3 v4 v5 v6 v7 σ H locs ls hf hP hS hl
  unfold f_X0_firstInTheWay_b127 at hf
  refine lv_iinc (v := (v7 + (1 : Int32))) (lv' := [(7, .int (v7 + (1 : Int32))), (0, .ref (Γ.1 138)), (1, .ref (Γ.1 b1)), (2, .int v2), (3, .int v3), (4, .int v4), (5, .int v5), (6, .int v6)]) C.1 C.2.1 (kd kX0_firstInTheWay_1 5 rfl) hl (k := 7) rfl rfl (Nat.le_of_ble_eq_true rfl) rfl (fun ls hl => ?_)
  refine lv_goto (tgt := 35) C.1 C.2.1 (kd kX0_firstInTheWay_1 6 rfl) (by decide) ?_
  exact hK35 (v2) (v3) (v4) (v5) (v6) ((v7 + (1 : Int32))) σ H locs ls hf hP hS (lv_sub hl [1, 2, 3, 4, 5, 6, 7, 0] rfl)
def f_X0_firstInTheWay_b35 (b1 : Nat) : Nat → Int32 → Int32 → Int32 → Int32 → Int32 → Int32 → fS → Option (Int32 × fS)
  | 0, _, _, _, _, _, _, _ => none
  | n_ + 1, v2, v3, v4, v5, v6, v7, σ => (if v2 ≤ v7 then some ((-10004 : Int32), σ) else fb v7 12 (fcall (f_X5_at (b1 + 5) 12 4 (σ 139 v7.toNatClampNeg) (3 : Int32) σ) (fun r1_ σ1 => fb (σ 139 v7.toNatClampNeg) 12 (fcall (f_X0_sails (σ 139 v7.toNatClampNeg) σ1) (fun r2_ σ2 => (if r2_ = 0 then f_X0_firstInTheWay_b127 b1 (fun v2 v3 v4 v5 v6 v7 σ => f_X0_firstInTheWay_b35 b1 n_ v2 v3 v4 v5 v6 v7 σ) (v2) (v3) (v4) (v5) (v6) (v7) σ2 else fcall (f_X5_at (b1 + 5) 12 4 (σ 139 v7.toNatClampNeg) v3 σ2) (fun r3_ σ3 => fcall (f_X5_at (b1 + 5) 12 4 v4 v3 σ3) (fun r4_ σ4 => (if r3_ = r4_ then (if (r1_ + (σ1 143 (σ 139 v7.toNatClampNeg).toNatClampNeg)) ≤ v5 then f_X0_firstInTheWay_b127 b1 (fun v2 v3 v4 v5 v6 v7 σ => f_X0_firstInTheWay_b35 b1 n_ v2 v3 v4 v5 v6 v7 σ) (v2) (v3) (v4) (v5) (v6) (v7) σ4 else fcall (f_X5_at (b1 + 5) 12 4 (σ 139 v7.toNatClampNeg) (2 : Int32) σ4) (fun r5_ σ5 => (if v6 ≤ r5_ then f_X0_firstInTheWay_b127 b1 (fun v2 v3 v4 v5 v6 v7 σ => f_X0_firstInTheWay_b35 b1 n_ v2 v3 v4 v5 v6 v7 σ) (v2) (v3) (v4) (v5) (v6) (v7) σ5 else some ((σ 139 v7.toNatClampNeg), σ5)))) else f_X0_firstInTheWay_b127 b1 (fun v2 v3 v4 v5 v6 v7 σ => f_X0_firstInTheWay_b35 b1 n_ v2 v3 v4 v5 v6 v7 σ) (v2) (v3) (v4) (v5) (v6) (v7) σ4)))))))))
set_option maxRecDepth 100000 in
set_option maxHeartbeats 4000000 in
theorem w_X0_firstInTheWay_b35 {b1 : Nat} {r : Int32} {σ' : fS} (h1 : fD b1 = (3, 0, 0))  (C : fC Γ p s m args meth c cX0_firstInTheWay (some .int) RX0 10) : ∀ (n_ : Nat) (v2 : Int32) (v3 : Int32) (v4 : Int32) (v5 : Int32) (v6 : Int32) (v7 : Int32) (σ : fS) (H : Heap) (locs : List Loc) (ls : Array Slot), f_X0_firstInTheWay_b35 b1 n_ v2 v3 v4 v5 v6 v7 σ = some (r, σ') → fH Γ σ H → va_S (fAd Γ) s.heap H locs → lv_has ls 10 [(0, .ref (Γ.1 138)), (1, .ref (Γ.1 b1)), (2, .int v2), (3, .int v3), (4, .int v4), (5, .int v5), (6, .int v6), (7, .int v7)] → W p l e ({ frames := 1, cells := 0, slots := 0, locals := 22 } : Room) s m args below meth c H locs 0 0 (MQ below (fQi Γ r σ') args s 0 0 (fAd Γ)) (F0 m 35 ls []) := by
  intro n_
  induction n_ with
  | zero =>
    intro v2 v3 v4 v5 v6 v7 σ H locs ls hf
    cases hf
  | succ n_ ih =>
    intro v2 v3 v4 v5 v6 v7 σ H locs ls hf hP hS hl
    have hf : (if v2 ≤ v7 then some ((-10004 : Int32), σ) else fb v7 12 (fcall (f_X5_at (b1 + 5) 12 4 (σ 139 v7.toNatClampNeg) (3 : Int32) σ) (fun r1_ σ1 => fb (σ 139 v7.toNatClampNeg) 12 (fcall (f_X0_sails (σ 139 v7.toNatClampNeg) σ1) (fun r2_ σ2 => (if r2_ = 0 then f_X0_firstInTheWay_b127 b1 (fun v2 v3 v4 v5 v6 v7 σ => f_X0_firstInTheWay_b35 b1 n_ v2 v3 v4 v5 v6 v7 σ) (v2) (v3) (v4) (v5) (v6) (v7) σ2 else fcall (f_X5_at (b1 + 5) 12 4 (σ 139 v7.toNatClampNeg) v3 σ2) (fun r3_ σ3 => fcall (f_X5_at (b1 + 5) 12 4 v4 v3 σ3) (fun r4_ σ4 => (if r3_ = r4_ then (if (r1_ + (σ1 143 (σ 139 v7.toNatClampNeg).toNatClampNeg)) ≤ v5 then f_X0_firstInTheWay_b127 b1 (fun v2 v3 v4 v5 v6 v7 σ => f_X0_firstInTheWay_b35 b1 n_ v2 v3 v4 v5 v6 v7 σ) (v2) (v3) (v4) (v5) (v6) (v7) σ4 else fcall (f_X5_at (b1 + 5) 12 4 (σ 139 v7.toNatClampNeg) (2 : Int32) σ4) (fun r5_ σ5 => (if v6 ≤ r5_ then f_X0_firstInTheWay_b127 b1 (fun v2 v3 v4 v5 v6 v7 σ => f_X0_firstInTheWay_b35 b1 n_ v2 v3 v4 v5 v6 v7 σ) (v2) (v3) (v4) (v5) (v6) (v7) σ5 else some ((σ 139 v7.toNatClampNeg), σ5)))) else f_X0_firstInTheWay_b127 b1 (fun v2 v3 v4 v5 v6 v7 σ => f_X0_firstInTheWay_b35 b1 n_ v2 v3 v4 v5 v6 v7 σ) (v2) (v3) (v4) (v5) (v6) (v7) σ4))))))))) = some (r, σ') := hf
    have hK35 := ih
    refine lv_iload C.1 C.2.1 (kd kX0_firstInTheWay_0 19 rfl) (lv_at hl 7 rfl) ?_
    refine lv_iload_n C.1 C.2.1 (kd kX0_firstInTheWay_0 20 rfl) rfl (lv_at hl 2 rfl) ?_
    refine lv_icmp_ge (tgt := 133) C.1 C.2.1 (kd kX0_firstInTheWay_0 21 rfl) (by decide) (fun q => ?_) (fun q => ?_)
    · have hf := fif_pos q hf
      refine lv_sipush (v := (-10004 : Int32)) C.1 C.2.1 (kd kX0_firstInTheWay_1 7 rfl) (by decide) ?_
      exact fl_iret C hP hS hf (kd kX0_firstInTheWay_1 8 rfl)
    have hf := fif_neg q hf
    refine lv_aload_n C.1 C.2.1 (kd kX0_firstInTheWay_0 22 rfl) rfl (lv_at hl 0 rfl) ?_
    refine fl_get (j := 0) (v := .ref (Γ.1 139)) C hP rfl (Nat.le_of_ble_eq_true rfl) rfl inX0 (Nat.le_of_ble_eq_true rfl) tw_175 rfl (kd kX0_firstInTheWay_0 23 rfl) ?_
    refine lv_iload C.1 C.2.1 (kd kX0_firstInTheWay_0 24 rfl) (lv_at hl 7 rfl) ?_
    obtain ⟨hq, hf⟩ := fb_some hf
    refine fl_iald C hP rfl hq (kd kX0_firstInTheWay_0 25 rfl) ?_
    refine lv_istore (lv' := [(8, .int (σ 139 v7.toNatClampNeg)), (0, .ref (Γ.1 138)), (1, .ref (Γ.1 b1)), (2, .int v2), (3, .int v3), (4, .int v4), (5, .int v5), (6, .int v6), (7, .int v7)]) C.1 C.2.1 (kd kX0_firstInTheWay_0 26 rfl) hl (Nat.le_of_ble_eq_true rfl) rfl (fun ls hl => ?_)
    refine lv_aload_n C.1 C.2.1 (kd kX0_firstInTheWay_0 27 rfl) rfl (lv_at hl 2 rfl) ?_
    refine fl_get (j := 2) (v := .ref (Γ.1 (b1 + 5))) C hP (fe_P h1) (fD_lt h1) rfl inX3 (Nat.le_of_ble_eq_true rfl) tw_118 rfl (kd kX0_firstInTheWay_0 28 rfl) ?_
    refine lv_iload C.1 C.2.1 (kd kX0_firstInTheWay_0 29 rfl) (lv_at hl 0 rfl) ?_
    refine lv_iconst (v := (3 : Int32)) C.1 C.2.1 (kd kX0_firstInTheWay_0 30 rfl) (by decide) ?_
    obtain ⟨r1_, σ1, hσ1, hf⟩ := fcall_some hf
    refine fl_i hS (fl_runV (As := [.int (σ 139 v7.toNatClampNeg), .int (3 : Int32)]) (rest := []) C hP (fe_T (fD_prt h1).2.2.1) (fD_lt (fD_prt h1).2.2.1) rfl (m_X5_at C.2.2.2.2.2.2.2.2 l (fD_prt h1).2.2.1 hσ1) (fgV tw_543 tw_418 tw_419 tw_69 tw_420) hd_X5_at ⟨rfl, rfl, Nat.le_of_ble_eq_true rfl, Nat.le_of_ble_eq_true rfl⟩ rfl hl.1 rfl (Nat.le_of_ble_eq_true rfl) (kd kX0_firstInTheWay_0 31 rfl)) (fun H locs hP hS => ?_)
    refine lv_aload_n C.1 C.2.1 (kd kX0_firstInTheWay_0 32 rfl) rfl (lv_at hl 1 rfl) ?_
    refine fl_get (j := 4) (v := .ref (Γ.1 143)) C hP rfl (Nat.le_of_ble_eq_true rfl) rfl inX0 (Nat.le_of_ble_eq_true rfl) tw_181 rfl (kd kX0_firstInTheWay_0 33 rfl) ?_
    refine lv_iload C.1 C.2.1 (kd kX0_firstInTheWay_0 34 rfl) (lv_at hl 0 rfl) ?_
    obtain ⟨hq, hf⟩ := fb_some hf
    refine fl_iald C hP rfl hq (kd kX0_firstInTheWay_0 35 rfl) ?_
    refine lv_iadd C.1 C.2.1 (kd kX0_firstInTheWay_0 36 rfl) ?_
    refine lv_istore (lv' := [(9, .int (r1_ + (σ1 143 (σ 139 v7.toNatClampNeg).toNatClampNeg))), (8, .int (σ 139 v7.toNatClampNeg)), (0, .ref (Γ.1 138)), (1, .ref (Γ.1 b1)), (2, .int v2), (3, .int v3), (4, .int v4), (5, .int v5), (6, .int v6), (7, .int v7)]) C.1 C.2.1 (kd kX0_firstInTheWay_0 37 rfl) hl (Nat.le_of_ble_eq_true rfl) rfl (fun ls hl => ?_)
    refine lv_aload_n C.1 C.2.1 (kd kX0_firstInTheWay_0 38 rfl) rfl (lv_at hl 2 rfl) ?_
    refine lv_iload C.1 C.2.1 (kd kX0_firstInTheWay_0 39 rfl) (lv_at hl 1 rfl) ?_
    obtain ⟨r2_, σ2, hσ2, hf⟩ := fcall_some hf
    refine fl_i hS (fl_runV (As := [.int (σ 139 v7.toNatClampNeg)]) (rest := []) C hP rfl (Nat.le_of_ble_eq_true rfl) rfl (m_X0_sails C.2.2.2.2.2.2.2.2 l  hσ2) (fgV tw_579 tw_580 tw_581 tw_71 tw_582) hd_X0_sails ⟨rfl, rfl, Nat.le_of_ble_eq_true rfl, Nat.le_of_ble_eq_true rfl⟩ rfl hl.1 rfl (Nat.le_of_ble_eq_true rfl) (kd kX0_firstInTheWay_0 40 rfl)) (fun H locs hP hS => ?_)
    refine lv_if_eq (tgt := 127) C.1 C.2.1 (kd kX0_firstInTheWay_0 41 rfl) (by decide) (fun q => ?_) (fun q => ?_)
    · have hf := fif_pos q hf
      exact w_X0_firstInTheWay_b127 h1 C hK35 (v2) (v3) (v4) (v5) (v6) (v7) σ2 H locs ls hf hP hS (lv_sub hl [2, 3, 4, 5, 6, 7, 8, 9] rfl)
    have hf := fif_neg q hf
    refine lv_aload_n C.1 C.2.1 (kd kX0_firstInTheWay_0 42 rfl) rfl (lv_at hl 3 rfl) ?_
    refine fl_get (j := 2) (v := .ref (Γ.1 (b1 + 5))) C hP (fe_P h1) (fD_lt h1) rfl inX3 (Nat.le_of_ble_eq_true rfl) tw_118 rfl (kd kX0_firstInTheWay_0 43 rfl) ?_
    refine lv_iload C.1 C.2.1 (kd kX0_firstInTheWay_0 44 rfl) (lv_at hl 1 rfl) ?_
    refine lv_iload_n C.1 C.2.1 (kd kX0_firstInTheWay_0 45 rfl) rfl (lv_at hl 5 rfl) ?_
    obtain ⟨r3_, σ3, hσ3, hf⟩ := fcall_some hf
    refine fl_i hS (fl_runV (As := [.int (σ 139 v7.toNatClampNeg), .int v3]) (rest := []) C hP (fe_T (fD_prt h1).2.2.1) (fD_lt (fD_prt h1).2.2.1) rfl (m_X5_at C.2.2.2.2.2.2.2.2 l (fD_prt h1).2.2.1 hσ3) (fgV tw_543 tw_418 tw_419 tw_69 tw_420) hd_X5_at ⟨rfl, rfl, Nat.le_of_ble_eq_true rfl, Nat.le_of_ble_eq_true rfl⟩ rfl hl.1 rfl (Nat.le_of_ble_eq_true rfl) (kd kX0_firstInTheWay_0 46 rfl)) (fun H locs hP hS => ?_)
    refine lv_aload_n C.1 C.2.1 (kd kX0_firstInTheWay_0 47 rfl) rfl (lv_at hl 3 rfl) ?_
    refine fl_get (j := 2) (v := .ref (Γ.1 (b1 + 5))) C hP (fe_P h1) (fD_lt h1) rfl inX3 (Nat.le_of_ble_eq_true rfl) tw_118 rfl (kd kX0_firstInTheWay_0 48 rfl) ?_
    refine lv_iload C.1 C.2.1 (kd kX0_firstInTheWay_0 49 rfl) (lv_at hl 6 rfl) ?_
    refine lv_iload_n C.1 C.2.1 (kd kX0_firstInTheWay_0 50 rfl) rfl (lv_at hl 5 rfl) ?_
    obtain ⟨r4_, σ4, hσ4, hf⟩ := fcall_some hf
    refine fl_i hS (fl_runV (As := [.int v4, .int v3]) (rest := [.int r3_]) C hP (fe_T (fD_prt h1).2.2.1) (fD_lt (fD_prt h1).2.2.1) rfl (m_X5_at C.2.2.2.2.2.2.2.2 l (fD_prt h1).2.2.1 hσ4) (fgV tw_543 tw_418 tw_419 tw_69 tw_420) hd_X5_at ⟨rfl, rfl, Nat.le_of_ble_eq_true rfl, Nat.le_of_ble_eq_true rfl⟩ rfl hl.1 rfl (Nat.le_of_ble_eq_true rfl) (kd kX0_firstInTheWay_0 51 rfl)) (fun H locs hP hS => ?_)
    refine lv_icmp_ne (tgt := 127) C.1 C.2.1 (kd kX0_firstInTheWay_0 52 rfl) (by decide) (fun q => ?_) (fun q => ?_)
    · have hf := fif_neg q hf
      exact w_X0_firstInTheWay_b127 h1 C hK35 (v2) (v3) (v4) (v5) (v6) (v7) σ4 H locs ls hf hP hS (lv_sub hl [2, 3, 4, 5, 6, 7, 8, 9] rfl)
    have hf := fif_pos q hf
    refine lv_iload C.1 C.2.1 (kd kX0_firstInTheWay_0 53 rfl) (lv_at hl 7 rfl) ?_
    refine lv_iload C.1 C.2.1 (kd kX0_firstInTheWay_0 54 rfl) (lv_at hl 0 rfl) ?_
    refine lv_icmp_ge (tgt := 127) C.1 C.2.1 (kd kX0_firstInTheWay_0 55 rfl) (by decide) (fun q => ?_) (fun q => ?_)
    · have hf := fif_pos q hf
      exact w_X0_firstInTheWay_b127 h1 C hK35 (v2) (v3) (v4) (v5) (v6) (v7) σ4 H locs ls hf hP hS (lv_sub hl [2, 3, 4, 5, 6, 7, 8, 9] rfl)
    have hf := fif_neg q hf
    refine lv_aload_n C.1 C.2.1 (kd kX0_firstInTheWay_0 56 rfl) rfl (lv_at hl 3 rfl) ?_
    refine fl_get (j := 2) (v := .ref (Γ.1 (b1 + 5))) C hP (fe_P h1) (fD_lt h1) rfl inX3 (Nat.le_of_ble_eq_true rfl) tw_118 rfl (kd kX0_firstInTheWay_0 57 rfl) ?_
    refine lv_iload C.1 C.2.1 (kd kX0_firstInTheWay_0 58 rfl) (lv_at hl 1 rfl) ?_
    refine lv_iconst (v := (2 : Int32)) C.1 C.2.1 (kd kX0_firstInTheWay_0 59 rfl) (by decide) ?_
    obtain ⟨r5_, σ5, hσ5, hf⟩ := fcall_some hf
    refine fl_i hS (fl_runV (As := [.int (σ 139 v7.toNatClampNeg), .int (2 : Int32)]) (rest := []) C hP (fe_T (fD_prt h1).2.2.1) (fD_lt (fD_prt h1).2.2.1) rfl (m_X5_at C.2.2.2.2.2.2.2.2 l (fD_prt h1).2.2.1 hσ5) (fgV tw_543 tw_418 tw_419 tw_69 tw_420) hd_X5_at ⟨rfl, rfl, Nat.le_of_ble_eq_true rfl, Nat.le_of_ble_eq_true rfl⟩ rfl hl.1 rfl (Nat.le_of_ble_eq_true rfl) (kd kX0_firstInTheWay_1 0 rfl)) (fun H locs hP hS => ?_)
    refine lv_iload C.1 C.2.1 (kd kX0_firstInTheWay_1 1 rfl) (lv_at hl 8 rfl) ?_
    refine lv_icmp_ge (tgt := 127) C.1 C.2.1 (kd kX0_firstInTheWay_1 2 rfl) (by decide) (fun q => ?_) (fun q => ?_)
    · have hf := fif_pos q hf
      exact w_X0_firstInTheWay_b127 h1 C hK35 (v2) (v3) (v4) (v5) (v6) (v7) σ5 H locs ls hf hP hS (lv_sub hl [2, 3, 4, 5, 6, 7, 8, 9] rfl)
    have hf := fif_neg q hf
    refine lv_iload C.1 C.2.1 (kd kX0_firstInTheWay_1 3 rfl) (lv_at hl 1 rfl) ?_
    exact fl_iret C hP hS hf (kd kX0_firstInTheWay_1 4 rfl)
def f_X0_firstInTheWay (b1 : Nat) (x2 : Int32) (x3 : Int32) (σ : fS) : Option (Int32 × fS) := fb x2 12 (fcall (f_X5_at (b1 + 5) 12 4 (σ 139 x2.toNatClampNeg) (2 : Int32) σ) (fun r1_ σ1 => fcall (f_X5_at (b1 + 5) 12 4 (σ 139 x2.toNatClampNeg) (3 : Int32) σ1) (fun r2_ σ2 => f_X0_firstInTheWay_b35 b1 fN (x2) (x3) ((σ 139 x2.toNatClampNeg)) (r1_) (r2_) ((0 : Int32)) σ2)))
set_option maxRecDepth 100000 in
set_option maxHeartbeats 4000000 in
theorem m_X0_firstInTheWay {Γ : fGm} (hI : fI Γ) (l : Launch) {b1 : Nat} {x2 : Int32} {x3 : Int32} (h1 : fD b1 = (3, 0, 0)) {σ : fS} {r : Int32} {σ' : fS} (hf : f_X0_firstInTheWay b1 x2 x3 σ = some (r, σ')) : Met l yX0_firstInTheWay (.code yX0_firstInTheWay cX0_firstInTheWay 10 (some .int) :: lw_g) ({ frames := 1, cells := 0, slots := 0, locals := 22 } : Room) (fPre Γ [.ref (Γ.1 138), .ref (Γ.1 b1), .int x2, .int x3] σ) (fQi Γ r σ') 0 0 (fAd Γ) := by
  refine fl_enter (own := RX0) hI (by decide +kernel) rfl (Nat.le_of_ble_eq_true rfl) ?_
  intro p e s m args below meth c ls C hl hP hS
  have hl : lv_has ls 10 [(0, .ref (Γ.1 138)), (1, .ref (Γ.1 b1)), (2, .int x2), (3, .int x3)] := hl
  obtain ⟨H, hH⟩ : ∃ H, H = s.heap := ⟨_, rfl⟩
  obtain ⟨locs, hL⟩ : ∃ L : List Loc, L = [] := ⟨_, rfl⟩
  have hP : fH Γ σ H := by rw [hH]; exact hP
  have hS : va_S (fAd Γ) s.heap H locs := by rw [hH, hL]; exact hS
  suffices hw : W p l e ({ frames := 1, cells := 0, slots := 0, locals := 22 } : Room) s m args below meth c H locs 0 0 (MQ below (fQi Γ r σ') args s 0 0 (fAd Γ)) (F0 m 0 ls []) by rw [hH, hL] at hw; exact hw
  unfold f_X0_firstInTheWay at hf
  refine lv_aload_n C.1 C.2.1 (kd kX0_firstInTheWay_0 0 rfl) rfl (lv_at hl 0 rfl) ?_
  refine fl_get (j := 0) (v := .ref (Γ.1 139)) C hP rfl (Nat.le_of_ble_eq_true rfl) rfl inX0 (Nat.le_of_ble_eq_true rfl) tw_175 rfl (kd kX0_firstInTheWay_0 1 rfl) ?_
  refine lv_iload_n C.1 C.2.1 (kd kX0_firstInTheWay_0 2 rfl) rfl (lv_at hl 2 rfl) ?_
  obtain ⟨hq, hf⟩ := fb_some hf
  refine fl_iald C hP rfl hq (kd kX0_firstInTheWay_0 3 rfl) ?_
  refine lv_istore (lv' := [(4, .int (σ 139 x2.toNatClampNeg)), (0, .ref (Γ.1 138)), (1, .ref (Γ.1 b1)), (2, .int x2), (3, .int x3)]) C.1 C.2.1 (kd kX0_firstInTheWay_0 4 rfl) hl (Nat.le_of_ble_eq_true rfl) rfl (fun ls hl => ?_)
  refine lv_aload_n C.1 C.2.1 (kd kX0_firstInTheWay_0 5 rfl) rfl (lv_at hl 2 rfl) ?_
  refine fl_get (j := 2) (v := .ref (Γ.1 (b1 + 5))) C hP (fe_P h1) (fD_lt h1) rfl inX3 (Nat.le_of_ble_eq_true rfl) tw_118 rfl (kd kX0_firstInTheWay_0 6 rfl) ?_
  refine lv_iload C.1 C.2.1 (kd kX0_firstInTheWay_0 7 rfl) (lv_at hl 0 rfl) ?_
  refine lv_iconst (v := (2 : Int32)) C.1 C.2.1 (kd kX0_firstInTheWay_0 8 rfl) (by decide) ?_
  obtain ⟨r1_, σ1, hσ1, hf⟩ := fcall_some hf
  refine fl_i hS (fl_runV (As := [.int (σ 139 x2.toNatClampNeg), .int (2 : Int32)]) (rest := []) C hP (fe_T (fD_prt h1).2.2.1) (fD_lt (fD_prt h1).2.2.1) rfl (m_X5_at C.2.2.2.2.2.2.2.2 l (fD_prt h1).2.2.1 hσ1) (fgV tw_543 tw_418 tw_419 tw_69 tw_420) hd_X5_at ⟨rfl, rfl, Nat.le_of_ble_eq_true rfl, Nat.le_of_ble_eq_true rfl⟩ rfl hl.1 rfl (Nat.le_of_ble_eq_true rfl) (kd kX0_firstInTheWay_0 9 rfl)) (fun H locs hP hS => ?_)
  refine lv_istore (lv' := [(5, .int r1_), (4, .int (σ 139 x2.toNatClampNeg)), (0, .ref (Γ.1 138)), (1, .ref (Γ.1 b1)), (2, .int x2), (3, .int x3)]) C.1 C.2.1 (kd kX0_firstInTheWay_0 10 rfl) hl (Nat.le_of_ble_eq_true rfl) rfl (fun ls hl => ?_)
  refine lv_aload_n C.1 C.2.1 (kd kX0_firstInTheWay_0 11 rfl) rfl (lv_at hl 3 rfl) ?_
  refine fl_get (j := 2) (v := .ref (Γ.1 (b1 + 5))) C hP (fe_P h1) (fD_lt h1) rfl inX3 (Nat.le_of_ble_eq_true rfl) tw_118 rfl (kd kX0_firstInTheWay_0 12 rfl) ?_
  refine lv_iload C.1 C.2.1 (kd kX0_firstInTheWay_0 13 rfl) (lv_at hl 1 rfl) ?_
  refine lv_iconst (v := (3 : Int32)) C.1 C.2.1 (kd kX0_firstInTheWay_0 14 rfl) (by decide) ?_
  obtain ⟨r2_, σ2, hσ2, hf⟩ := fcall_some hf
  refine fl_i hS (fl_runV (As := [.int (σ 139 x2.toNatClampNeg), .int (3 : Int32)]) (rest := []) C hP (fe_T (fD_prt h1).2.2.1) (fD_lt (fD_prt h1).2.2.1) rfl (m_X5_at C.2.2.2.2.2.2.2.2 l (fD_prt h1).2.2.1 hσ2) (fgV tw_543 tw_418 tw_419 tw_69 tw_420) hd_X5_at ⟨rfl, rfl, Nat.le_of_ble_eq_true rfl, Nat.le_of_ble_eq_true rfl⟩ rfl hl.1 rfl (Nat.le_of_ble_eq_true rfl) (kd kX0_firstInTheWay_0 15 rfl)) (fun H locs hP hS => ?_)
  refine lv_istore (lv' := [(6, .int r2_), (5, .int r1_), (4, .int (σ 139 x2.toNatClampNeg)), (0, .ref (Γ.1 138)), (1, .ref (Γ.1 b1)), (2, .int x2), (3, .int x3)]) C.1 C.2.1 (kd kX0_firstInTheWay_0 16 rfl) hl (Nat.le_of_ble_eq_true rfl) rfl (fun ls hl => ?_)
  refine lv_iconst (v := (0 : Int32)) C.1 C.2.1 (kd kX0_firstInTheWay_0 17 rfl) (by decide) ?_
  refine lv_istore (lv' := [(7, .int (0 : Int32)), (6, .int r2_), (5, .int r1_), (4, .int (σ 139 x2.toNatClampNeg)), (0, .ref (Γ.1 138)), (1, .ref (Γ.1 b1)), (2, .int x2), (3, .int x3)]) C.1 C.2.1 (kd kX0_firstInTheWay_0 18 rfl) hl (Nat.le_of_ble_eq_true rfl) rfl (fun ls hl => ?_)
  exact w_X0_firstInTheWay_b35 h1 C fN (x2) (x3) ((σ 139 x2.toNatClampNeg)) (r1_) (r2_) ((0 : Int32)) σ2 H locs ls hf hP hS (lv_sub hl [4, 5, 6, 7, 3, 2, 1, 0] rfl)
def f_X0_decide_b94 (b1 : Nat) (v3 : Int32) (v5 : Int32) (s0 : Int32) (s1 : Int32) (σ : fS) : Option (fS) := fb s1 12 (fL (fu σ 141 s1.toNatClampNeg s0) (fun σ1 => fb v3 12 (fL (fu σ1 142 v3.toNatClampNeg v5) (fun σ2 => some σ2))))
set_option maxRecDepth 100000 in
set_option maxHeartbeats 4000000 in
theorem w_X0_decide_b94 {b1 : Nat} {σ' : fS} (h1 : fD b1 = (3, 0, 0))  (C : fC Γ p s m args meth c cX0_decide none RX0 6) : ∀ (v3 : Int32) (v5 : Int32) (s0 : Int32) (s1 : Int32) (σ : fS) (H : Heap) (locs : List Loc) (ls : Array Slot), f_X0_decide_b94 b1 v3 v5 s0 s1 σ = some σ' → fH Γ σ H → va_S (fAd Γ) s.heap H locs → lv_has ls 6 [(0, .ref (Γ.1 138)), (3, .int v3), (5, .int v5)] → W p l e ({ frames := 5, cells := 0, slots := 0, locals := 117 } : Room) s m args below meth c H locs 0 0 (MQ below (fQv Γ σ') args s 0 0 (fAd Γ)) (F0 m 94 ls [.int s0, .int s1, .ref (Γ.1 141)]) := by
  intro v3 v5 s0 s1 σ H locs ls hf hP hS hl
  unfold f_X0_decide_b94 at hf
  obtain ⟨hq, hf⟩ := fb_some hf
  obtain ⟨σ1, eσ1, hf⟩ := fL_some hf
  refine fl_iast C hP hS rfl hq (kd kX0_decide_0 51 rfl) (fun H locs hP hS => ?_)
  have hP : fH Γ σ1 H := by rw [eσ1]; exact hP
  refine lv_aload_n C.1 C.2.1 (kd kX0_decide_0 52 rfl) rfl (lv_at hl 0 rfl) ?_
  refine fl_get (j := 3) (v := .ref (Γ.1 142)) C hP rfl (Nat.le_of_ble_eq_true rfl) rfl inX0 (Nat.le_of_ble_eq_true rfl) tw_180 rfl (kd kX0_decide_0 53 rfl) ?_
  refine lv_iload_n C.1 C.2.1 (kd kX0_decide_0 54 rfl) rfl (lv_at hl 1 rfl) ?_
  refine lv_iload C.1 C.2.1 (kd kX0_decide_0 55 rfl) (lv_at hl 2 rfl) ?_
  obtain ⟨hq, hf⟩ := fb_some hf
  obtain ⟨σ2, eσ2, hf⟩ := fL_some hf
  refine fl_iast C hP hS rfl hq (kd kX0_decide_0 56 rfl) (fun H locs hP hS => ?_)
  have hP : fH Γ σ2 H := by rw [eσ2]; exact hP
  exact fl_vret C hP hS hf (kd kX0_decide_0 57 rfl)
def f_X0_decide_b75 (b1 : Nat) (v3 : Int32) (v4 : Int32) (v5 : Int32) (σ : fS) : Option (fS) := (if v5 = (-10004 : Int32) then f_X0_decide_b94 b1 (v3) (v5) ((0 : Int32)) (v3) σ else f_X0_decide_b94 b1 (v3) (v5) (v4) (v3) σ)
set_option maxRecDepth 100000 in
set_option maxHeartbeats 4000000 in
theorem w_X0_decide_b75 {b1 : Nat} {σ' : fS} (h1 : fD b1 = (3, 0, 0))  (C : fC Γ p s m args meth c cX0_decide none RX0 6) : ∀ (v3 : Int32) (v4 : Int32) (v5 : Int32) (σ : fS) (H : Heap) (locs : List Loc) (ls : Array Slot), f_X0_decide_b75 b1 v3 v4 v5 σ = some σ' → fH Γ σ H → va_S (fAd Γ) s.heap H locs → lv_has ls 6 [(0, .ref (Γ.1 138)), (3, .int v3), (4, .int v4), (5, .int v5)] → W p l e ({ frames := 5, cells := 0, slots := 0, locals := 117 } : Room) s m args below meth c H locs 0 0 (MQ below (fQv Γ σ') args s 0 0 (fAd Γ)) (F0 m 75 ls []) := by
  intro v3 v4 v5 σ H locs ls hf hP hS hl
  unfold f_X0_decide_b75 at hf
  refine lv_aload_n C.1 C.2.1 (kd kX0_decide_0 42 rfl) rfl (lv_at hl 0 rfl) ?_
  refine fl_get (j := 2) (v := .ref (Γ.1 141)) C hP rfl (Nat.le_of_ble_eq_true rfl) rfl inX0 (Nat.le_of_ble_eq_true rfl) tw_179 rfl (kd kX0_decide_0 43 rfl) ?_
  refine lv_iload_n C.1 C.2.1 (kd kX0_decide_0 44 rfl) rfl (lv_at hl 1 rfl) ?_
  refine lv_iload C.1 C.2.1 (kd kX0_decide_0 45 rfl) (lv_at hl 3 rfl) ?_
  refine lv_sipush (v := (-10004 : Int32)) C.1 C.2.1 (kd kX0_decide_0 46 rfl) (by decide) ?_
  refine lv_icmp_ne (tgt := 92) C.1 C.2.1 (kd kX0_decide_0 47 rfl) (by decide) (fun q => ?_) (fun q => ?_)
  · have hf := fif_neg q hf
    refine lv_iload C.1 C.2.1 (kd kX0_decide_0 50 rfl) (lv_at hl 2 rfl) ?_
    exact w_X0_decide_b94 h1 C (v3) (v5) (v4) (v3) σ H locs ls hf hP hS (lv_sub hl [0, 1, 3] rfl)
  have hf := fif_pos q hf
  refine lv_iconst (v := (0 : Int32)) C.1 C.2.1 (kd kX0_decide_0 48 rfl) (by decide) ?_
  refine lv_goto (tgt := 94) C.1 C.2.1 (kd kX0_decide_0 49 rfl) (by decide) ?_
  exact w_X0_decide_b94 h1 C (v3) (v5) ((0 : Int32)) (v3) σ H locs ls hf hP hS (lv_sub hl [0, 1, 3] rfl)
def f_X0_decide_b55 (b1 : Nat) (v2 : Int32) (v3 : Int32) (v4 : Int32) (v5 : Int32) (σ : fS) : Option (fS) := (if v5 = (-10004 : Int32) then fcall (f_X0_firstInTheWay b1 v2 (0 : Int32) σ) (fun r1_ σ1 => f_X0_decide_b75 b1 (v3) ((4 : Int32)) (r1_) σ1) else f_X0_decide_b75 b1 (v3) (v4) (v5) σ)
set_option maxRecDepth 100000 in
set_option maxHeartbeats 4000000 in
theorem w_X0_decide_b55 {b1 : Nat} {σ' : fS} (h1 : fD b1 = (3, 0, 0))  (C : fC Γ p s m args meth c cX0_decide none RX0 6) : ∀ (v2 : Int32) (v3 : Int32) (v4 : Int32) (v5 : Int32) (σ : fS) (H : Heap) (locs : List Loc) (ls : Array Slot), f_X0_decide_b55 b1 v2 v3 v4 v5 σ = some σ' → fH Γ σ H → va_S (fAd Γ) s.heap H locs → lv_has ls 6 [(0, .ref (Γ.1 138)), (1, .ref (Γ.1 b1)), (2, .int v2), (3, .int v3), (4, .int v4), (5, .int v5)] → W p l e ({ frames := 5, cells := 0, slots := 0, locals := 117 } : Room) s m args below meth c H locs 0 0 (MQ below (fQv Γ σ') args s 0 0 (fAd Γ)) (F0 m 55 ls []) := by
  intro v2 v3 v4 v5 σ H locs ls hf hP hS hl
  unfold f_X0_decide_b55 at hf
  refine lv_iload C.1 C.2.1 (kd kX0_decide_0 31 rfl) (lv_at hl 5 rfl) ?_
  refine lv_sipush (v := (-10004 : Int32)) C.1 C.2.1 (kd kX0_decide_0 32 rfl) (by decide) ?_
  refine lv_icmp_ne (tgt := 75) C.1 C.2.1 (kd kX0_decide_0 33 rfl) (by decide) (fun q => ?_) (fun q => ?_)
  · have hf := fif_neg q hf
    exact w_X0_decide_b75 h1 C (v3) (v4) (v5) σ H locs ls hf hP hS (lv_sub hl [0, 3, 4, 5] rfl)
  have hf := fif_pos q hf
  refine lv_iconst (v := (4 : Int32)) C.1 C.2.1 (kd kX0_decide_0 34 rfl) (by decide) ?_
  refine lv_istore (lv' := [(4, .int (4 : Int32)), (0, .ref (Γ.1 138)), (1, .ref (Γ.1 b1)), (2, .int v2), (3, .int v3), (5, .int v5)]) C.1 C.2.1 (kd kX0_decide_0 35 rfl) hl (Nat.le_of_ble_eq_true rfl) rfl (fun ls hl => ?_)
  refine lv_aload_n C.1 C.2.1 (kd kX0_decide_0 36 rfl) rfl (lv_at hl 1 rfl) ?_
  refine lv_aload_n C.1 C.2.1 (kd kX0_decide_0 37 rfl) rfl (lv_at hl 2 rfl) ?_
  refine lv_iload_n C.1 C.2.1 (kd kX0_decide_0 38 rfl) rfl (lv_at hl 3 rfl) ?_
  refine lv_iconst (v := (0 : Int32)) C.1 C.2.1 (kd kX0_decide_0 39 rfl) (by decide) ?_
  obtain ⟨r1_, σ1, hσ1, hf⟩ := fcall_some hf
  refine fl_i hS (fl_runV (As := [.ref (Γ.1 b1), .int v2, .int (0 : Int32)]) (rest := []) C hP rfl (Nat.le_of_ble_eq_true rfl) rfl (m_X0_firstInTheWay C.2.2.2.2.2.2.2.2 l h1 hσ1) (fgV tw_575 tw_577 tw_8 tw_71 tw_578) hd_X0_firstInTheWay ⟨rfl, rfl, Nat.le_of_ble_eq_true rfl, Nat.le_of_ble_eq_true rfl⟩ rfl hl.1 rfl (Nat.le_of_ble_eq_true rfl) (kd kX0_decide_0 40 rfl)) (fun H locs hP hS => ?_)
  refine lv_istore (lv' := [(5, .int r1_), (4, .int (4 : Int32)), (0, .ref (Γ.1 138)), (1, .ref (Γ.1 b1)), (2, .int v2), (3, .int v3)]) C.1 C.2.1 (kd kX0_decide_0 41 rfl) hl (Nat.le_of_ble_eq_true rfl) rfl (fun ls hl => ?_)
  exact w_X0_decide_b75 h1 C (v3) ((4 : Int32)) (r1_) σ1 H locs ls hf hP hS (lv_sub hl [2, 5, 1, 0] rfl)
def f_X0_decide_b35 (b1 : Nat) (v2 : Int32) (v3 : Int32) (v4 : Int32) (v5 : Int32) (σ : fS) : Option (fS) := (if v5 = (-10004 : Int32) then fcall (f_X0_firstInTheWay b1 v2 (1 : Int32) σ) (fun r1_ σ1 => f_X0_decide_b55 b1 (v2) (v3) ((3 : Int32)) (r1_) σ1) else f_X0_decide_b55 b1 (v2) (v3) (v4) (v5) σ)
set_option maxRecDepth 100000 in
set_option maxHeartbeats 4000000 in
theorem w_X0_decide_b35 {b1 : Nat} {σ' : fS} (h1 : fD b1 = (3, 0, 0))  (C : fC Γ p s m args meth c cX0_decide none RX0 6) : ∀ (v2 : Int32) (v3 : Int32) (v4 : Int32) (v5 : Int32) (σ : fS) (H : Heap) (locs : List Loc) (ls : Array Slot), f_X0_decide_b35 b1 v2 v3 v4 v5 σ = some σ' → fH Γ σ H → va_S (fAd Γ) s.heap H locs → lv_has ls 6 [(0, .ref (Γ.1 138)), (1, .ref (Γ.1 b1)), (2, .int v2), (3, .int v3), (4, .int v4), (5, .int v5)] → W p l e ({ frames := 5, cells := 0, slots := 0, locals := 117 } : Room) s m args below meth c H locs 0 0 (MQ below (fQv Γ σ') args s 0 0 (fAd Γ)) (F0 m 35 ls []) := by
  intro v2 v3 v4 v5 σ H locs ls hf hP hS hl
  unfold f_X0_decide_b35 at hf
  refine lv_iload C.1 C.2.1 (kd kX0_decide_0 20 rfl) (lv_at hl 5 rfl) ?_
  refine lv_sipush (v := (-10004 : Int32)) C.1 C.2.1 (kd kX0_decide_0 21 rfl) (by decide) ?_
  refine lv_icmp_ne (tgt := 55) C.1 C.2.1 (kd kX0_decide_0 22 rfl) (by decide) (fun q => ?_) (fun q => ?_)
  · have hf := fif_neg q hf
    exact w_X0_decide_b55 h1 C (v2) (v3) (v4) (v5) σ H locs ls hf hP hS (lv_sub hl [0, 1, 2, 3, 4, 5] rfl)
  have hf := fif_pos q hf
  refine lv_iconst (v := (3 : Int32)) C.1 C.2.1 (kd kX0_decide_0 23 rfl) (by decide) ?_
  refine lv_istore (lv' := [(4, .int (3 : Int32)), (0, .ref (Γ.1 138)), (1, .ref (Γ.1 b1)), (2, .int v2), (3, .int v3), (5, .int v5)]) C.1 C.2.1 (kd kX0_decide_0 24 rfl) hl (Nat.le_of_ble_eq_true rfl) rfl (fun ls hl => ?_)
  refine lv_aload_n C.1 C.2.1 (kd kX0_decide_0 25 rfl) rfl (lv_at hl 1 rfl) ?_
  refine lv_aload_n C.1 C.2.1 (kd kX0_decide_0 26 rfl) rfl (lv_at hl 2 rfl) ?_
  refine lv_iload_n C.1 C.2.1 (kd kX0_decide_0 27 rfl) rfl (lv_at hl 3 rfl) ?_
  refine lv_iconst (v := (1 : Int32)) C.1 C.2.1 (kd kX0_decide_0 28 rfl) (by decide) ?_
  obtain ⟨r1_, σ1, hσ1, hf⟩ := fcall_some hf
  refine fl_i hS (fl_runV (As := [.ref (Γ.1 b1), .int v2, .int (1 : Int32)]) (rest := []) C hP rfl (Nat.le_of_ble_eq_true rfl) rfl (m_X0_firstInTheWay C.2.2.2.2.2.2.2.2 l h1 hσ1) (fgV tw_575 tw_577 tw_8 tw_71 tw_578) hd_X0_firstInTheWay ⟨rfl, rfl, Nat.le_of_ble_eq_true rfl, Nat.le_of_ble_eq_true rfl⟩ rfl hl.1 rfl (Nat.le_of_ble_eq_true rfl) (kd kX0_decide_0 29 rfl)) (fun H locs hP hS => ?_)
  refine lv_istore (lv' := [(5, .int r1_), (4, .int (3 : Int32)), (0, .ref (Γ.1 138)), (1, .ref (Γ.1 b1)), (2, .int v2), (3, .int v3)]) C.1 C.2.1 (kd kX0_decide_0 30 rfl) hl (Nat.le_of_ble_eq_true rfl) rfl (fun ls hl => ?_)
  exact w_X0_decide_b55 h1 C (v2) (v3) ((3 : Int32)) (r1_) σ1 H locs ls hf hP hS (lv_sub hl [2, 3, 4, 5, 1, 0] rfl)
def f_X0_decide (b1 : Nat) (x2 : Int32) (σ : fS) : Option (fS) := fb x2 12 (fcall (f_X0_strongWind b1 (σ 139 x2.toNatClampNeg) σ) (fun r1_ σ1 => (if r1_ = (-10004 : Int32) then fcall (f_X0_firstShallowTime b1 (σ 139 x2.toNatClampNeg) σ1) (fun r2_ σ2 => f_X0_decide_b35 b1 (x2) ((σ 139 x2.toNatClampNeg)) ((2 : Int32)) (r2_) σ2) else f_X0_decide_b35 b1 (x2) ((σ 139 x2.toNatClampNeg)) ((1 : Int32)) (r1_) σ1)))
set_option maxRecDepth 100000 in
set_option maxHeartbeats 4000000 in
theorem m_X0_decide {Γ : fGm} (hI : fI Γ) (l : Launch) {b1 : Nat} {x2 : Int32} (h1 : fD b1 = (3, 0, 0)) {σ : fS} {σ' : fS} (hf : f_X0_decide b1 x2 σ = some σ') : Met l yX0_decide (.code yX0_decide cX0_decide 6 none :: lw_g) ({ frames := 5, cells := 0, slots := 0, locals := 117 } : Room) (fPre Γ [.ref (Γ.1 138), .ref (Γ.1 b1), .int x2] σ) (fQv Γ σ') 0 0 (fAd Γ) := by
  refine fl_enter (own := RX0) hI (by decide +kernel) rfl (Nat.le_of_ble_eq_true rfl) ?_
  intro p e s m args below meth c ls C hl hP hS
  have hl : lv_has ls 6 [(0, .ref (Γ.1 138)), (1, .ref (Γ.1 b1)), (2, .int x2)] := hl
  obtain ⟨H, hH⟩ : ∃ H, H = s.heap := ⟨_, rfl⟩
  obtain ⟨locs, hL⟩ : ∃ L : List Loc, L = [] := ⟨_, rfl⟩
  have hP : fH Γ σ H := by rw [hH]; exact hP
  have hS : va_S (fAd Γ) s.heap H locs := by rw [hH, hL]; exact hS
  suffices hw : W p l e ({ frames := 5, cells := 0, slots := 0, locals := 117 } : Room) s m args below meth c H locs 0 0 (MQ below (fQv Γ σ') args s 0 0 (fAd Γ)) (F0 m 0 ls []) by rw [hH, hL] at hw; exact hw
  unfold f_X0_decide at hf
  refine lv_aload_n C.1 C.2.1 (kd kX0_decide_0 0 rfl) rfl (lv_at hl 0 rfl) ?_
  refine fl_get (j := 0) (v := .ref (Γ.1 139)) C hP rfl (Nat.le_of_ble_eq_true rfl) rfl inX0 (Nat.le_of_ble_eq_true rfl) tw_175 rfl (kd kX0_decide_0 1 rfl) ?_
  refine lv_iload_n C.1 C.2.1 (kd kX0_decide_0 2 rfl) rfl (lv_at hl 2 rfl) ?_
  obtain ⟨hq, hf⟩ := fb_some hf
  refine fl_iald C hP rfl hq (kd kX0_decide_0 3 rfl) ?_
  refine lv_istore_n (lv' := [(3, .int (σ 139 x2.toNatClampNeg)), (0, .ref (Γ.1 138)), (1, .ref (Γ.1 b1)), (2, .int x2)]) C.1 C.2.1 (kd kX0_decide_0 4 rfl) rfl hl (Nat.le_of_ble_eq_true rfl) rfl (fun ls hl => ?_)
  refine lv_iconst (v := (1 : Int32)) C.1 C.2.1 (kd kX0_decide_0 5 rfl) (by decide) ?_
  refine lv_istore (lv' := [(4, .int (1 : Int32)), (3, .int (σ 139 x2.toNatClampNeg)), (0, .ref (Γ.1 138)), (1, .ref (Γ.1 b1)), (2, .int x2)]) C.1 C.2.1 (kd kX0_decide_0 6 rfl) hl (Nat.le_of_ble_eq_true rfl) rfl (fun ls hl => ?_)
  refine lv_aload_n C.1 C.2.1 (kd kX0_decide_0 7 rfl) rfl (lv_at hl 3 rfl) ?_
  refine lv_iload_n C.1 C.2.1 (kd kX0_decide_0 8 rfl) rfl (lv_at hl 1 rfl) ?_
  obtain ⟨r1_, σ1, hσ1, hf⟩ := fcall_some hf
  refine fl_i hS (fl_runS (As := [.ref (Γ.1 b1), .int (σ 139 x2.toNatClampNeg)]) (rest := []) C hP (m_X0_strongWind C.2.2.2.2.2.2.2.2 l h1 hσ1) (fgS tw_548 tw_549 tw_71 tw_550) hs_X0_strongWind ⟨rfl, rfl, Nat.le_of_ble_eq_true rfl, Nat.le_of_ble_eq_true rfl⟩ rfl hl.1 rfl (Nat.le_of_ble_eq_true rfl) (kd kX0_decide_0 9 rfl)) (fun H locs hP hS => ?_)
  refine lv_istore (lv' := [(5, .int r1_), (4, .int (1 : Int32)), (3, .int (σ 139 x2.toNatClampNeg)), (0, .ref (Γ.1 138)), (1, .ref (Γ.1 b1)), (2, .int x2)]) C.1 C.2.1 (kd kX0_decide_0 10 rfl) hl (Nat.le_of_ble_eq_true rfl) rfl (fun ls hl => ?_)
  refine lv_iload C.1 C.2.1 (kd kX0_decide_0 11 rfl) (lv_at hl 0 rfl) ?_
  refine lv_sipush (v := (-10004 : Int32)) C.1 C.2.1 (kd kX0_decide_0 12 rfl) (by decide) ?_
  refine lv_icmp_ne (tgt := 35) C.1 C.2.1 (kd kX0_decide_0 13 rfl) (by decide) (fun q => ?_) (fun q => ?_)
  · have hf := fif_neg q hf
    exact w_X0_decide_b35 h1 C (x2) ((σ 139 x2.toNatClampNeg)) ((1 : Int32)) (r1_) σ1 H locs ls hf hP hS (lv_sub hl [3, 4, 5, 2, 1, 0] rfl)
  have hf := fif_pos q hf
  refine lv_iconst (v := (2 : Int32)) C.1 C.2.1 (kd kX0_decide_0 14 rfl) (by decide) ?_
  refine lv_istore (lv' := [(4, .int (2 : Int32)), (5, .int r1_), (3, .int (σ 139 x2.toNatClampNeg)), (0, .ref (Γ.1 138)), (1, .ref (Γ.1 b1)), (2, .int x2)]) C.1 C.2.1 (kd kX0_decide_0 15 rfl) hl (Nat.le_of_ble_eq_true rfl) rfl (fun ls hl => ?_)
  refine lv_aload_n C.1 C.2.1 (kd kX0_decide_0 16 rfl) rfl (lv_at hl 4 rfl) ?_
  refine lv_iload_n C.1 C.2.1 (kd kX0_decide_0 17 rfl) rfl (lv_at hl 2 rfl) ?_
  obtain ⟨r2_, σ2, hσ2, hf⟩ := fcall_some hf
  refine fl_i hS (fl_runS (As := [.ref (Γ.1 b1), .int (σ 139 x2.toNatClampNeg)]) (rest := []) C hP (m_X0_firstShallowTime C.2.2.2.2.2.2.2.2 l h1 hσ2) (fgS tw_559 tw_560 tw_71 tw_561) hs_X0_firstShallowTime ⟨rfl, rfl, Nat.le_of_ble_eq_true rfl, Nat.le_of_ble_eq_true rfl⟩ rfl hl.1 rfl (Nat.le_of_ble_eq_true rfl) (kd kX0_decide_0 18 rfl)) (fun H locs hP hS => ?_)
  refine lv_istore (lv' := [(5, .int r2_), (4, .int (2 : Int32)), (3, .int (σ 139 x2.toNatClampNeg)), (0, .ref (Γ.1 138)), (1, .ref (Γ.1 b1)), (2, .int x2)]) C.1 C.2.1 (kd kX0_decide_0 19 rfl) hl (Nat.le_of_ble_eq_true rfl) rfl (fun ls hl => ?_)
  exact w_X0_decide_b35 h1 C (x2) ((σ 139 x2.toNatClampNeg)) ((2 : Int32)) (r2_) σ2 H locs ls hf hP hS (lv_sub hl [3, 4, 5, 2, 1, 0] rfl)
def f_X0_readyTime (b0 : Nat) (x1 : Int32) (σ : fS) : Option (Int32 × fS) := fcall (f_X5_at (b0 + 9) 8 4 x1 (1 : Int32) σ) (fun r1_ σ1 => some ((r1_ + (10 : Int32)), σ1))
set_option maxRecDepth 100000 in
set_option maxHeartbeats 4000000 in
theorem m_X0_readyTime {Γ : fGm} (hI : fI Γ) (l : Launch) {b0 : Nat} {x1 : Int32} (h0 : fD b0 = (3, 0, 0)) {σ : fS} {r : Int32} {σ' : fS} (hf : f_X0_readyTime b0 x1 σ = some (r, σ')) : Met l yX0_readyTime (.code yX0_readyTime cX0_readyTime 2 (some .int) :: lw_g) ({ frames := 1, cells := 0, slots := 0, locals := 22 } : Room) (fPre Γ [.ref (Γ.1 b0), .int x1] σ) (fQi Γ r σ') 0 0 (fAd Γ) := by
  refine fl_enter (own := RX0) hI (by decide +kernel) rfl (Nat.le_of_ble_eq_true rfl) ?_
  intro p e s m args below meth c ls C hl hP hS
  have hl : lv_has ls 2 [(0, .ref (Γ.1 b0)), (1, .int x1)] := hl
  obtain ⟨H, hH⟩ : ∃ H, H = s.heap := ⟨_, rfl⟩
  obtain ⟨locs, hL⟩ : ∃ L : List Loc, L = [] := ⟨_, rfl⟩
  have hP : fH Γ σ H := by rw [hH]; exact hP
  have hS : va_S (fAd Γ) s.heap H locs := by rw [hH, hL]; exact hS
  suffices hw : W p l e ({ frames := 1, cells := 0, slots := 0, locals := 22 } : Room) s m args below meth c H locs 0 0 (MQ below (fQi Γ r σ') args s 0 0 (fAd Γ)) (F0 m 0 ls []) by rw [hH, hL] at hw; exact hw
  unfold f_X0_readyTime at hf
  refine lv_aload_n C.1 C.2.1 (kd kX0_readyTime_0 0 rfl) rfl (lv_at hl 0 rfl) ?_
  refine fl_get (j := 4) (v := .ref (Γ.1 (b0 + 9))) C hP (fe_P h0) (fD_lt h0) rfl inX3 (Nat.le_of_ble_eq_true rfl) tw_125 rfl (kd kX0_readyTime_0 1 rfl) ?_
  refine lv_iload_n C.1 C.2.1 (kd kX0_readyTime_0 2 rfl) rfl (lv_at hl 1 rfl) ?_
  refine lv_iconst (v := (1 : Int32)) C.1 C.2.1 (kd kX0_readyTime_0 3 rfl) (by decide) ?_
  obtain ⟨r1_, σ1, hσ1, hf⟩ := fcall_some hf
  refine fl_i hS (fl_runV (As := [.int x1, .int (1 : Int32)]) (rest := []) C hP (fe_T (fD_prt h0).2.2.2.2.1) (fD_lt (fD_prt h0).2.2.2.2.1) rfl (m_X5_at C.2.2.2.2.2.2.2.2 l (fD_prt h0).2.2.2.2.1 hσ1) (fgV tw_543 tw_418 tw_419 tw_69 tw_420) hd_X5_at ⟨rfl, rfl, Nat.le_of_ble_eq_true rfl, Nat.le_of_ble_eq_true rfl⟩ rfl hl.1 rfl (Nat.le_of_ble_eq_true rfl) (kd kX0_readyTime_0 4 rfl)) (fun H locs hP hS => ?_)
  refine lv_bipush (v := (10 : Int32)) C.1 C.2.1 (kd kX0_readyTime_0 5 rfl) (by decide) ?_
  refine lv_iadd C.1 C.2.1 (kd kX0_readyTime_0 6 rfl) ?_
  exact fl_iret C hP hS hf (kd kX0_readyTime_0 7 rfl)
def f_X0_fateOf_b95 (b0 : Nat) (s0 : Int32) (σ : fS) : Option (Int32 × fS) := (if s0 = 0 then some ((2 : Int32), σ) else some ((1 : Int32), σ))
set_option maxRecDepth 100000 in
set_option maxHeartbeats 4000000 in
theorem w_X0_fateOf_b95 {b0 : Nat} {r : Int32} {σ' : fS} (h0 : fD b0 = (3, 0, 0))  (C : fC Γ p s m args meth c cX0_fateOf (some .int) RX0 8) : ∀ (s0 : Int32) (σ : fS) (H : Heap) (locs : List Loc) (ls : Array Slot), f_X0_fateOf_b95 b0 s0 σ = some (r, σ') → fH Γ σ H → va_S (fAd Γ) s.heap H locs → lv_has ls 8 [] → W p l e ({ frames := 4, cells := 0, slots := 0, locals := 91 } : Room) s m args below meth c H locs 0 0 (MQ below (fQi Γ r σ') args s 0 0 (fAd Γ)) (F0 m 95 ls [.int s0]) := by
  intro s0 σ H locs ls hf hP hS hl
  unfold f_X0_fateOf_b95 at hf
  refine lv_istore (lv' := [(7, .int s0)]) C.1 C.2.1 (kd kX0_fateOf_0 52 rfl) hl (Nat.le_of_ble_eq_true rfl) rfl (fun ls hl => ?_)
  refine lv_iload C.1 C.2.1 (kd kX0_fateOf_0 53 rfl) (lv_at hl 0 rfl) ?_
  refine lv_if_eq (tgt := 106) C.1 C.2.1 (kd kX0_fateOf_0 54 rfl) (by decide) (fun q => ?_) (fun q => ?_)
  · have hf := fif_pos q hf
    refine lv_iconst (v := (2 : Int32)) C.1 C.2.1 (kd kX0_fateOf_0 57 rfl) (by decide) ?_
    exact fl_iret C hP hS hf (kd kX0_fateOf_0 58 rfl)
  have hf := fif_neg q hf
  refine lv_iconst (v := (1 : Int32)) C.1 C.2.1 (kd kX0_fateOf_0 55 rfl) (by decide) ?_
  refine lv_goto (tgt := 107) C.1 C.2.1 (kd kX0_fateOf_0 56 rfl) (by decide) ?_
  exact fl_iret C hP hS hf (kd kX0_fateOf_0 58 rfl)
def f_X0_fateOf_b94 (b0 : Nat) (σ : fS) : Option (Int32 × fS) := f_X0_fateOf_b95 b0 ((0 : Int32)) σ
set_option maxRecDepth 100000 in
set_option maxHeartbeats 4000000 in
theorem w_X0_fateOf_b94 {b0 : Nat} {r : Int32} {σ' : fS} (h0 : fD b0 = (3, 0, 0))  (C : fC Γ p s m args meth c cX0_fateOf (some .int) RX0 8) : ∀ (σ : fS) (H : Heap) (locs : List Loc) (ls : Array Slot), f_X0_fateOf_b94 b0 σ = some (r, σ') → fH Γ σ H → va_S (fAd Γ) s.heap H locs → lv_has ls 8 [] → W p l e ({ frames := 4, cells := 0, slots := 0, locals := 91 } : Room) s m args below meth c H locs 0 0 (MQ below (fQi Γ r σ') args s 0 0 (fAd Γ)) (F0 m 94 ls []) := by
  intro σ H locs ls hf hP hS hl
  unfold f_X0_fateOf_b94 at hf
  refine lv_iconst (v := (0 : Int32)) C.1 C.2.1 (kd kX0_fateOf_0 51 rfl) (by decide) ?_
  exact w_X0_fateOf_b95 h0 C ((0 : Int32)) σ H locs ls hf hP hS (lv_sub hl [] rfl)
def f_X0_fateOf (b0 : Nat) (x1 : Int32) (x2 : Int32) (σ : fS) : Option (Int32 × fS) := fcall (f_X5_at (b0 + 5) 12 4 x1 (3 : Int32) σ) (fun r1_ σ1 => fcall (f_X0_readyTime b0 x2 σ1) (fun r2_ σ2 => (if r1_ < r2_ then fcall (f_X5_at (b0 + 5) 12 4 x1 (0 : Int32) σ2) (fun r3_ σ3 => fcall (f_X5_at (b0 + 5) 12 4 x1 (1 : Int32) σ3) (fun r4_ σ4 => fcall (f_X5_at (b0 + 9) 8 4 x2 (2 : Int32) σ4) (fun r5_ σ5 => (if (r1_ + r5_) < r2_ then f_X0_fateOf_b94 b0 σ5 else fcall (f_X3_windAt b0 r2_ σ5) (fun r6_ σ6 => fcall (f_X3_windLimitOf b0 x1 σ6) (fun r7_ σ7 => (if r7_ < r6_ then f_X0_fateOf_b94 b0 σ7 else fcall (f_X3_isDeepEnough b0 r4_ r3_ r2_ σ7) (fun r8_ σ8 => (if r8_ = 0 then f_X0_fateOf_b94 b0 σ8 else f_X0_fateOf_b95 b0 ((1 : Int32)) σ8))))))))) else some ((0 : Int32), σ2))))
set_option maxRecDepth 100000 in
set_option maxHeartbeats 4000000 in
theorem m_X0_fateOf {Γ : fGm} (hI : fI Γ) (l : Launch) {b0 : Nat} {x1 : Int32} {x2 : Int32} (h0 : fD b0 = (3, 0, 0)) {σ : fS} {r : Int32} {σ' : fS} (hf : f_X0_fateOf b0 x1 x2 σ = some (r, σ')) : Met l yX0_fateOf (.code yX0_fateOf cX0_fateOf 8 (some .int) :: lw_g) ({ frames := 4, cells := 0, slots := 0, locals := 91 } : Room) (fPre Γ [.ref (Γ.1 b0), .int x1, .int x2] σ) (fQi Γ r σ') 0 0 (fAd Γ) := by
  refine fl_enter (own := RX0) hI (by decide +kernel) rfl (Nat.le_of_ble_eq_true rfl) ?_
  intro p e s m args below meth c ls C hl hP hS
  have hl : lv_has ls 8 [(0, .ref (Γ.1 b0)), (1, .int x1), (2, .int x2)] := hl
  obtain ⟨H, hH⟩ : ∃ H, H = s.heap := ⟨_, rfl⟩
  obtain ⟨locs, hL⟩ : ∃ L : List Loc, L = [] := ⟨_, rfl⟩
  have hP : fH Γ σ H := by rw [hH]; exact hP
  have hS : va_S (fAd Γ) s.heap H locs := by rw [hH, hL]; exact hS
  suffices hw : W p l e ({ frames := 4, cells := 0, slots := 0, locals := 91 } : Room) s m args below meth c H locs 0 0 (MQ below (fQi Γ r σ') args s 0 0 (fAd Γ)) (F0 m 0 ls []) by rw [hH, hL] at hw; exact hw
  unfold f_X0_fateOf at hf
  refine lv_aload_n C.1 C.2.1 (kd kX0_fateOf_0 0 rfl) rfl (lv_at hl 0 rfl) ?_
  refine fl_get (j := 2) (v := .ref (Γ.1 (b0 + 5))) C hP (fe_P h0) (fD_lt h0) rfl inX3 (Nat.le_of_ble_eq_true rfl) tw_118 rfl (kd kX0_fateOf_0 1 rfl) ?_
  refine lv_iload_n C.1 C.2.1 (kd kX0_fateOf_0 2 rfl) rfl (lv_at hl 1 rfl) ?_
  refine lv_iconst (v := (3 : Int32)) C.1 C.2.1 (kd kX0_fateOf_0 3 rfl) (by decide) ?_
  obtain ⟨r1_, σ1, hσ1, hf⟩ := fcall_some hf
  refine fl_i hS (fl_runV (As := [.int x1, .int (3 : Int32)]) (rest := []) C hP (fe_T (fD_prt h0).2.2.1) (fD_lt (fD_prt h0).2.2.1) rfl (m_X5_at C.2.2.2.2.2.2.2.2 l (fD_prt h0).2.2.1 hσ1) (fgV tw_543 tw_418 tw_419 tw_69 tw_420) hd_X5_at ⟨rfl, rfl, Nat.le_of_ble_eq_true rfl, Nat.le_of_ble_eq_true rfl⟩ rfl hl.1 rfl (Nat.le_of_ble_eq_true rfl) (kd kX0_fateOf_0 4 rfl)) (fun H locs hP hS => ?_)
  refine lv_istore_n (lv' := [(3, .int r1_), (0, .ref (Γ.1 b0)), (1, .int x1), (2, .int x2)]) C.1 C.2.1 (kd kX0_fateOf_0 5 rfl) rfl hl (Nat.le_of_ble_eq_true rfl) rfl (fun ls hl => ?_)
  refine lv_aload_n C.1 C.2.1 (kd kX0_fateOf_0 6 rfl) rfl (lv_at hl 1 rfl) ?_
  refine lv_iload_n C.1 C.2.1 (kd kX0_fateOf_0 7 rfl) rfl (lv_at hl 3 rfl) ?_
  obtain ⟨r2_, σ2, hσ2, hf⟩ := fcall_some hf
  refine fl_i hS (fl_runS (As := [.ref (Γ.1 b0), .int x2]) (rest := []) C hP (m_X0_readyTime C.2.2.2.2.2.2.2.2 l h0 hσ2) (fgS tw_590 tw_591 tw_71 tw_592) hs_X0_readyTime ⟨rfl, rfl, Nat.le_of_ble_eq_true rfl, Nat.le_of_ble_eq_true rfl⟩ rfl hl.1 rfl (Nat.le_of_ble_eq_true rfl) (kd kX0_fateOf_0 8 rfl)) (fun H locs hP hS => ?_)
  refine lv_istore (lv' := [(4, .int r2_), (3, .int r1_), (0, .ref (Γ.1 b0)), (1, .int x1), (2, .int x2)]) C.1 C.2.1 (kd kX0_fateOf_0 9 rfl) hl (Nat.le_of_ble_eq_true rfl) rfl (fun ls hl => ?_)
  refine lv_iload C.1 C.2.1 (kd kX0_fateOf_0 10 rfl) (lv_at hl 0 rfl) ?_
  refine lv_iload_n C.1 C.2.1 (kd kX0_fateOf_0 11 rfl) rfl (lv_at hl 1 rfl) ?_
  refine lv_icmp_gt (tgt := 25) C.1 C.2.1 (kd kX0_fateOf_0 12 rfl) (by decide) (fun q => ?_) (fun q => ?_)
  · have hf := fif_pos q hf
    refine lv_aload_n C.1 C.2.1 (kd kX0_fateOf_0 15 rfl) rfl (lv_at hl 2 rfl) ?_
    refine fl_get (j := 2) (v := .ref (Γ.1 (b0 + 5))) C hP (fe_P h0) (fD_lt h0) rfl inX3 (Nat.le_of_ble_eq_true rfl) tw_118 rfl (kd kX0_fateOf_0 16 rfl) ?_
    refine lv_iload_n C.1 C.2.1 (kd kX0_fateOf_0 17 rfl) rfl (lv_at hl 3 rfl) ?_
    refine lv_iconst (v := (0 : Int32)) C.1 C.2.1 (kd kX0_fateOf_0 18 rfl) (by decide) ?_
    obtain ⟨r3_, σ3, hσ3, hf⟩ := fcall_some hf
    refine fl_i hS (fl_runV (As := [.int x1, .int (0 : Int32)]) (rest := []) C hP (fe_T (fD_prt h0).2.2.1) (fD_lt (fD_prt h0).2.2.1) rfl (m_X5_at C.2.2.2.2.2.2.2.2 l (fD_prt h0).2.2.1 hσ3) (fgV tw_543 tw_418 tw_419 tw_69 tw_420) hd_X5_at ⟨rfl, rfl, Nat.le_of_ble_eq_true rfl, Nat.le_of_ble_eq_true rfl⟩ rfl hl.1 rfl (Nat.le_of_ble_eq_true rfl) (kd kX0_fateOf_0 19 rfl)) (fun H locs hP hS => ?_)
    refine lv_istore (lv' := [(5, .int r3_), (4, .int r2_), (3, .int r1_), (0, .ref (Γ.1 b0)), (1, .int x1), (2, .int x2)]) C.1 C.2.1 (kd kX0_fateOf_0 20 rfl) hl (Nat.le_of_ble_eq_true rfl) rfl (fun ls hl => ?_)
    refine lv_aload_n C.1 C.2.1 (kd kX0_fateOf_0 21 rfl) rfl (lv_at hl 3 rfl) ?_
    refine fl_get (j := 2) (v := .ref (Γ.1 (b0 + 5))) C hP (fe_P h0) (fD_lt h0) rfl inX3 (Nat.le_of_ble_eq_true rfl) tw_118 rfl (kd kX0_fateOf_0 22 rfl) ?_
    refine lv_iload_n C.1 C.2.1 (kd kX0_fateOf_0 23 rfl) rfl (lv_at hl 4 rfl) ?_
    refine lv_iconst (v := (1 : Int32)) C.1 C.2.1 (kd kX0_fateOf_0 24 rfl) (by decide) ?_
    obtain ⟨r4_, σ4, hσ4, hf⟩ := fcall_some hf
    refine fl_i hS (fl_runV (As := [.int x1, .int (1 : Int32)]) (rest := []) C hP (fe_T (fD_prt h0).2.2.1) (fD_lt (fD_prt h0).2.2.1) rfl (m_X5_at C.2.2.2.2.2.2.2.2 l (fD_prt h0).2.2.1 hσ4) (fgV tw_543 tw_418 tw_419 tw_69 tw_420) hd_X5_at ⟨rfl, rfl, Nat.le_of_ble_eq_true rfl, Nat.le_of_ble_eq_true rfl⟩ rfl hl.1 rfl (Nat.le_of_ble_eq_true rfl) (kd kX0_fateOf_0 25 rfl)) (fun H locs hP hS => ?_)
    refine lv_istore (lv' := [(6, .int r4_), (5, .int r3_), (4, .int r2_), (3, .int r1_), (0, .ref (Γ.1 b0)), (1, .int x1), (2, .int x2)]) C.1 C.2.1 (kd kX0_fateOf_0 26 rfl) hl (Nat.le_of_ble_eq_true rfl) rfl (fun ls hl => ?_)
    refine lv_iload C.1 C.2.1 (kd kX0_fateOf_0 27 rfl) (lv_at hl 2 rfl) ?_
    refine lv_iload_n C.1 C.2.1 (kd kX0_fateOf_0 28 rfl) rfl (lv_at hl 3 rfl) ?_
    refine lv_aload_n C.1 C.2.1 (kd kX0_fateOf_0 29 rfl) rfl (lv_at hl 4 rfl) ?_
    refine fl_get (j := 4) (v := .ref (Γ.1 (b0 + 9))) C hP (fe_P h0) (fD_lt h0) rfl inX3 (Nat.le_of_ble_eq_true rfl) tw_125 rfl (kd kX0_fateOf_0 30 rfl) ?_
    refine lv_iload_n C.1 C.2.1 (kd kX0_fateOf_0 31 rfl) rfl (lv_at hl 6 rfl) ?_
    refine lv_iconst (v := (2 : Int32)) C.1 C.2.1 (kd kX0_fateOf_0 32 rfl) (by decide) ?_
    obtain ⟨r5_, σ5, hσ5, hf⟩ := fcall_some hf
    refine fl_i hS (fl_runV (As := [.int x2, .int (2 : Int32)]) (rest := [.int r1_, .int r2_]) C hP (fe_T (fD_prt h0).2.2.2.2.1) (fD_lt (fD_prt h0).2.2.2.2.1) rfl (m_X5_at C.2.2.2.2.2.2.2.2 l (fD_prt h0).2.2.2.2.1 hσ5) (fgV tw_543 tw_418 tw_419 tw_69 tw_420) hd_X5_at ⟨rfl, rfl, Nat.le_of_ble_eq_true rfl, Nat.le_of_ble_eq_true rfl⟩ rfl hl.1 rfl (Nat.le_of_ble_eq_true rfl) (kd kX0_fateOf_0 33 rfl)) (fun H locs hP hS => ?_)
    refine lv_iadd C.1 C.2.1 (kd kX0_fateOf_0 34 rfl) ?_
    refine lv_icmp_gt (tgt := 94) C.1 C.2.1 (kd kX0_fateOf_0 35 rfl) (by decide) (fun q => ?_) (fun q => ?_)
    · have hf := fif_pos q hf
      exact w_X0_fateOf_b94 h0 C σ5 H locs ls hf hP hS (lv_sub hl [] rfl)
    have hf := fif_neg q hf
    refine lv_aload_n C.1 C.2.1 (kd kX0_fateOf_0 36 rfl) rfl (lv_at hl 4 rfl) ?_
    refine lv_iload C.1 C.2.1 (kd kX0_fateOf_0 37 rfl) (lv_at hl 2 rfl) ?_
    obtain ⟨r6_, σ6, hσ6, hf⟩ := fcall_some hf
    refine fl_i hS (fl_runV (As := [.int r2_]) (rest := []) C hP (fe_P h0) (fD_lt h0) rfl (m_X3_windAt C.2.2.2.2.2.2.2.2 l h0 hσ6) (fgV tw_551 tw_552 tw_553 tw_68 tw_554) hd_X3_windAt ⟨rfl, rfl, Nat.le_of_ble_eq_true rfl, Nat.le_of_ble_eq_true rfl⟩ rfl hl.1 rfl (Nat.le_of_ble_eq_true rfl) (kd kX0_fateOf_0 38 rfl)) (fun H locs hP hS => ?_)
    refine lv_aload_n C.1 C.2.1 (kd kX0_fateOf_0 39 rfl) rfl (lv_at hl 4 rfl) ?_
    refine lv_iload_n C.1 C.2.1 (kd kX0_fateOf_0 40 rfl) rfl (lv_at hl 5 rfl) ?_
    obtain ⟨r7_, σ7, hσ7, hf⟩ := fcall_some hf
    refine fl_i hS (fl_runV (As := [.int x1]) (rest := [.int r6_]) C hP (fe_P h0) (fD_lt h0) rfl (m_X3_windLimitOf C.2.2.2.2.2.2.2.2 l h0 hσ7) (fgV tw_555 tw_556 tw_557 tw_68 tw_558) hd_X3_windLimitOf ⟨rfl, rfl, Nat.le_of_ble_eq_true rfl, Nat.le_of_ble_eq_true rfl⟩ rfl hl.1 rfl (Nat.le_of_ble_eq_true rfl) (kd kX0_fateOf_0 41 rfl)) (fun H locs hP hS => ?_)
    refine lv_icmp_gt (tgt := 94) C.1 C.2.1 (kd kX0_fateOf_0 42 rfl) (by decide) (fun q => ?_) (fun q => ?_)
    · have hf := fif_pos q hf
      exact w_X0_fateOf_b94 h0 C σ7 H locs ls hf hP hS (lv_sub hl [] rfl)
    have hf := fif_neg q hf
    refine lv_aload_n C.1 C.2.1 (kd kX0_fateOf_0 43 rfl) rfl (lv_at hl 4 rfl) ?_
    refine lv_iload C.1 C.2.1 (kd kX0_fateOf_0 44 rfl) (lv_at hl 0 rfl) ?_
    refine lv_iload C.1 C.2.1 (kd kX0_fateOf_0 45 rfl) (lv_at hl 1 rfl) ?_
    refine lv_iload C.1 C.2.1 (kd kX0_fateOf_0 46 rfl) (lv_at hl 2 rfl) ?_
    obtain ⟨r8_, σ8, hσ8, hf⟩ := fcall_some hf
    refine fl_i hS (fl_runV (As := [.int r4_, .int r3_, .int r2_]) (rest := []) C hP (fe_P h0) (fD_lt h0) rfl (m_X3_isDeepEnough C.2.2.2.2.2.2.2.2 l h0 hσ8) (fgV tw_562 tw_563 tw_564 tw_68 tw_565) hd_X3_isDeepEnough ⟨rfl, rfl, Nat.le_of_ble_eq_true rfl, Nat.le_of_ble_eq_true rfl⟩ rfl hl.1 rfl (Nat.le_of_ble_eq_true rfl) (kd kX0_fateOf_0 47 rfl)) (fun H locs hP hS => ?_)
    refine lv_if_eq (tgt := 94) C.1 C.2.1 (kd kX0_fateOf_0 48 rfl) (by decide) (fun q => ?_) (fun q => ?_)
    · have hf := fif_pos q hf
      exact w_X0_fateOf_b94 h0 C σ8 H locs ls hf hP hS (lv_sub hl [] rfl)
    have hf := fif_neg q hf
    refine lv_iconst (v := (1 : Int32)) C.1 C.2.1 (kd kX0_fateOf_0 49 rfl) (by decide) ?_
    refine lv_goto (tgt := 95) C.1 C.2.1 (kd kX0_fateOf_0 50 rfl) (by decide) ?_
    exact w_X0_fateOf_b95 h0 C ((1 : Int32)) σ8 H locs ls hf hP hS (lv_sub hl [] rfl)
  have hf := fif_neg q hf
  refine lv_iconst (v := (0 : Int32)) C.1 C.2.1 (kd kX0_fateOf_0 13 rfl) (by decide) ?_
  exact fl_iret C hP hS hf (kd kX0_fateOf_0 14 rfl)
def f_X0_settleConnections_b106 (b1 : Nat) (K20 : Int32 → Int32 → Int32 → fS → Option (fS)) (v2 : Int32) (v3 : Int32) (v4 : Int32) (σ : fS) : Option (fS) := K20 (v2) (v3) ((v4 + (1 : Int32))) σ
set_option maxRecDepth 100000 in
set_option maxHeartbeats 4000000 in
theorem w_X0_settleConnections_b106 {b1 : Nat} {σ' : fS} {K20 : Int32 → Int32 → Int32 → fS → Option (fS)} (h1 : fD b1 = (3, 0, 0))  (C : fC Γ p s m args meth c cX0_settleConnections none RX0 5) (hK20 : ∀ (v2 : Int32) (v3 : Int32) (v4 : Int32) (σ : fS) (H : Heap) (locs : List Loc) (ls : Array Slot), K20 v2 v3 v4 σ = some σ' → fH Γ σ H → va_S (fAd Γ) s.heap H locs → lv_has ls 5 [(0, .ref (Γ.1 138)), (1, .ref (Γ.1 b1)), (2, .int v2), (3, .int v3), (4, .int v4)] → W p l e ({ frames := 5, cells := 0, slots := 0, locals := 118 } : Room) s m args below meth c H locs 0 0 (MQ below (fQv Γ σ') args s 0 0 (fAd Γ)) (F0 m 20 ls [])) : ∀ (v2 : Int32) (v3 : Int32) (v4 : Int32) (σ : fS) (H : Heap) (locs : List Loc) (ls : Array Slot), f_X0_settleConnections_b106 b1 K20 v2 v3 v4 σ = some σ' → fH Γ σ H → va_S (fAd Γ) s.heap H locs → lv_has ls 5 [(0, .ref (Γ.1 138)), (1, .ref (Γ.1 b1)), (2, .int v2), (3, .int v3), (4, .int v4)] → W p l e ({ frames := 5, cells := 0, slots := 0, locals := 118 } : Room) s m args below meth c H locs 0 0 (MQ below (fQv Γ σ') args s 0 0 (fAd Γ)) (F0 m 106 ls []) := by
  intro v2 v3 v4 σ H locs ls hf hP hS hl
  unfold f_X0_settleConnections_b106 at hf
  refine lv_iinc (v := (v4 + (1 : Int32))) (lv' := [(4, .int (v4 + (1 : Int32))), (0, .ref (Γ.1 138)), (1, .ref (Γ.1 b1)), (2, .int v2), (3, .int v3)]) C.1 C.2.1 (kd kX0_settleConnections_0 59 rfl) hl (k := 4) rfl rfl (Nat.le_of_ble_eq_true rfl) rfl (fun ls hl => ?_)
  refine lv_goto (tgt := 20) C.1 C.2.1 (kd kX0_settleConnections_1 0 rfl) (by decide) ?_
  exact hK20 (v2) (v3) ((v4 + (1 : Int32))) σ H locs ls hf hP hS (lv_sub hl [1, 2, 3, 4, 0] rfl)
def f_X0_settleConnections_b71 (b1 : Nat) (K20 : Int32 → Int32 → Int32 → fS → Option (fS)) (v2 : Int32) (v3 : Int32) (v4 : Int32) (s0 : Int32) (s1 : Int32) (σ : fS) : Option (fS) := fb s1 8 (fL (fu σ 144 s1.toNatClampNeg s0) (fun σ1 => fb v4 8 ((if (σ1 144 v4.toNatClampNeg) = (1 : Int32) then fb v2 12 (fcall (f_X0_readyTime b1 v4 σ1) (fun r2_ σ2 => fb v2 12 (fL (fu σ2 143 v2.toNatClampNeg (if (σ1 143 v2.toNatClampNeg) < (r2_ - v3) then (r2_ - v3) else (σ1 143 v2.toNatClampNeg))) (fun σ3 => f_X0_settleConnections_b106 b1 K20 (v2) (v3) (v4) σ3)))) else f_X0_settleConnections_b106 b1 K20 (v2) (v3) (v4) σ1))))
set_option maxRecDepth 100000 in
set_option maxHeartbeats 4000000 in
theorem w_X0_settleConnections_b71 {b1 : Nat} {σ' : fS} {K20 : Int32 → Int32 → Int32 → fS → Option (fS)} (h1 : fD b1 = (3, 0, 0))  (C : fC Γ p s m args meth c cX0_settleConnections none RX0 5) (hK20 : ∀ (v2 : Int32) (v3 : Int32) (v4 : Int32) (σ : fS) (H : Heap) (locs : List Loc) (ls : Array Slot), K20 v2 v3 v4 σ = some σ' → fH Γ σ H → va_S (fAd Γ) s.heap H locs → lv_has ls 5 [(0, .ref (Γ.1 138)), (1, .ref (Γ.1 b1)), (2, .int v2), (3, .int v3), (4, .int v4)] → W p l e ({ frames := 5, cells := 0, slots := 0, locals := 118 } : Room) s m args below meth c H locs 0 0 (MQ below (fQv Γ σ') args s 0 0 (fAd Γ)) (F0 m 20 ls [])) : ∀ (v2 : Int32) (v3 : Int32) (v4 : Int32) (s0 : Int32) (s1 : Int32) (σ : fS) (H : Heap) (locs : List Loc) (ls : Array Slot), f_X0_settleConnections_b71 b1 K20 v2 v3 v4 s0 s1 σ = some σ' → fH Γ σ H → va_S (fAd Γ) s.heap H locs → lv_has ls 5 [(0, .ref (Γ.1 138)), (1, .ref (Γ.1 b1)), (2, .int v2), (3, .int v3), (4, .int v4)] → W p l e ({ frames := 5, cells := 0, slots := 0, locals := 118 } : Room) s m args below meth c H locs 0 0 (MQ below (fQv Γ σ') args s 0 0 (fAd Γ)) (F0 m 71 ls [.int s0, .int s1, .ref (Γ.1 144)]) := by
  intro v2 v3 v4 s0 s1 σ H locs ls hf hP hS hl
  unfold f_X0_settleConnections_b71 at hf
  obtain ⟨hq, hf⟩ := fb_some hf
  obtain ⟨σ1, eσ1, hf⟩ := fL_some hf
  refine fl_iast C hP hS rfl hq (kd kX0_settleConnections_0 38 rfl) (fun H locs hP hS => ?_)
  have hP : fH Γ σ1 H := by rw [eσ1]; exact hP
  refine lv_aload_n C.1 C.2.1 (kd kX0_settleConnections_0 39 rfl) rfl (lv_at hl 0 rfl) ?_
  refine fl_get (j := 5) (v := .ref (Γ.1 144)) C hP rfl (Nat.le_of_ble_eq_true rfl) rfl inX0 (Nat.le_of_ble_eq_true rfl) tw_182 rfl (kd kX0_settleConnections_0 40 rfl) ?_
  refine lv_iload C.1 C.2.1 (kd kX0_settleConnections_0 41 rfl) (lv_at hl 4 rfl) ?_
  obtain ⟨hq, hf⟩ := fb_some hf
  refine fl_iald C hP rfl hq (kd kX0_settleConnections_0 42 rfl) ?_
  refine lv_iconst (v := (1 : Int32)) C.1 C.2.1 (kd kX0_settleConnections_0 43 rfl) (by decide) ?_
  refine lv_icmp_ne (tgt := 106) C.1 C.2.1 (kd kX0_settleConnections_0 44 rfl) (by decide) (fun q => ?_) (fun q => ?_)
  · have hf := fif_neg q hf
    exact w_X0_settleConnections_b106 h1 C hK20 (v2) (v3) (v4) σ1 H locs ls hf hP hS (lv_sub hl [0, 1, 2, 3, 4] rfl)
  have hf := fif_pos q hf
  refine lv_aload_n C.1 C.2.1 (kd kX0_settleConnections_0 45 rfl) rfl (lv_at hl 0 rfl) ?_
  refine fl_get (j := 4) (v := .ref (Γ.1 143)) C hP rfl (Nat.le_of_ble_eq_true rfl) rfl inX0 (Nat.le_of_ble_eq_true rfl) tw_181 rfl (kd kX0_settleConnections_0 46 rfl) ?_
  refine lv_iload_n C.1 C.2.1 (kd kX0_settleConnections_0 47 rfl) rfl (lv_at hl 2 rfl) ?_
  refine lv_aload_n C.1 C.2.1 (kd kX0_settleConnections_0 48 rfl) rfl (lv_at hl 0 rfl) ?_
  refine fl_get (j := 4) (v := .ref (Γ.1 143)) C hP rfl (Nat.le_of_ble_eq_true rfl) rfl inX0 (Nat.le_of_ble_eq_true rfl) tw_181 rfl (kd kX0_settleConnections_0 49 rfl) ?_
  refine lv_iload_n C.1 C.2.1 (kd kX0_settleConnections_0 50 rfl) rfl (lv_at hl 2 rfl) ?_
  obtain ⟨hq, hf⟩ := fb_some hf
  refine fl_iald C hP rfl hq (kd kX0_settleConnections_0 51 rfl) ?_
  refine lv_aload_n C.1 C.2.1 (kd kX0_settleConnections_0 52 rfl) rfl (lv_at hl 1 rfl) ?_
  refine lv_iload C.1 C.2.1 (kd kX0_settleConnections_0 53 rfl) (lv_at hl 4 rfl) ?_
  obtain ⟨r2_, σ2, hσ2, hf⟩ := fcall_some hf
  refine fl_i hS (fl_runS (As := [.ref (Γ.1 b1), .int v4]) (rest := [.int (σ1 143 v2.toNatClampNeg), .int v2, .ref (Γ.1 143)]) C hP (m_X0_readyTime C.2.2.2.2.2.2.2.2 l h1 hσ2) (fgS tw_590 tw_591 tw_71 tw_592) hs_X0_readyTime ⟨rfl, rfl, Nat.le_of_ble_eq_true rfl, Nat.le_of_ble_eq_true rfl⟩ rfl hl.1 rfl (Nat.le_of_ble_eq_true rfl) (kd kX0_settleConnections_0 54 rfl)) (fun H locs hP hS => ?_)
  refine lv_iload_n C.1 C.2.1 (kd kX0_settleConnections_0 55 rfl) rfl (lv_at hl 3 rfl) ?_
  refine lv_isub C.1 C.2.1 (kd kX0_settleConnections_0 56 rfl) ?_
  refine fl_max C hl.1 tw_593 tw_594 tw_76 tw_595 (Nat.le_of_ble_eq_true rfl) (Nat.le_of_ble_eq_true rfl) (kd kX0_settleConnections_0 57 rfl) ?_
  obtain ⟨hq, hf⟩ := fb_some hf
  obtain ⟨σ3, eσ3, hf⟩ := fL_some hf
  refine fl_iast C hP hS rfl hq (kd kX0_settleConnections_0 58 rfl) (fun H locs hP hS => ?_)
  have hP : fH Γ σ3 H := by rw [eσ3]; exact hP
  exact w_X0_settleConnections_b106 h1 C hK20 (v2) (v3) (v4) σ3 H locs ls hf hP hS (lv_sub hl [0, 1, 2, 3, 4] rfl)
def f_X0_settleConnections_b20 (b1 : Nat) : Nat → Int32 → Int32 → Int32 → fS → Option (fS)
  | 0, _, _, _, _ => none
  | n_ + 1, v2, v3, v4, σ => fcall (f_X5_size (b1 + 9) 8 4 σ) (fun r1_ σ1 => (if r1_ ≤ v4 then some σ1 else fcall (f_X5_at (b1 + 9) 8 4 v4 (0 : Int32) σ1) (fun r2_ σ2 => (if r2_ = v2 then fcall (f_X0_sails v2 σ2) (fun r3_ σ3 => (if r3_ = 0 then f_X0_settleConnections_b71 b1 (fun v2 v3 v4 σ => f_X0_settleConnections_b20 b1 n_ v2 v3 v4 σ) (v2) (v3) (v4) ((2 : Int32)) (v4) σ3 else fcall (f_X0_fateOf b1 v2 v4 σ3) (fun r4_ σ4 => f_X0_settleConnections_b71 b1 (fun v2 v3 v4 σ => f_X0_settleConnections_b20 b1 n_ v2 v3 v4 σ) (v2) (v3) (v4) (r4_) (v4) σ4))) else f_X0_settleConnections_b106 b1 (fun v2 v3 v4 σ => f_X0_settleConnections_b20 b1 n_ v2 v3 v4 σ) (v2) (v3) (v4) σ2))))
set_option maxRecDepth 100000 in
set_option maxHeartbeats 4000000 in
theorem w_X0_settleConnections_b20 {b1 : Nat} {σ' : fS} (h1 : fD b1 = (3, 0, 0))  (C : fC Γ p s m args meth c cX0_settleConnections none RX0 5) : ∀ (n_ : Nat) (v2 : Int32) (v3 : Int32) (v4 : Int32) (σ : fS) (H : Heap) (locs : List Loc) (ls : Array Slot), f_X0_settleConnections_b20 b1 n_ v2 v3 v4 σ = some σ' → fH Γ σ H → va_S (fAd Γ) s.heap H locs → lv_has ls 5 [(0, .ref (Γ.1 138)), (1, .ref (Γ.1 b1)), (2, .int v2), (3, .int v3), (4, .int v4)] → W p l e ({ frames := 5, cells := 0, slots := 0, locals := 118 } : Room) s m args below meth c H locs 0 0 (MQ below (fQv Γ σ') args s 0 0 (fAd Γ)) (F0 m 20 ls []) := by
  intro n_
  induction n_ with
  | zero =>
    intro v2 v3 v4 σ H locs ls hf
    cases hf
  | succ n_ ih =>
    intro v2 v3 v4 σ H locs ls hf hP hS hl
    have hf : fcall (f_X5_size (b1 + 9) 8 4 σ) (fun r1_ σ1 => (if r1_ ≤ v4 then some σ1 else fcall (f_X5_at (b1 + 9) 8 4 v4 (0 : Int32) σ1) (fun r2_ σ2 => (if r2_ = v2 then fcall (f_X0_sails v2 σ2) (fun r3_ σ3 => (if r3_ = 0 then f_X0_settleConnections_b71 b1 (fun v2 v3 v4 σ => f_X0_settleConnections_b20 b1 n_ v2 v3 v4 σ) (v2) (v3) (v4) ((2 : Int32)) (v4) σ3 else fcall (f_X0_fateOf b1 v2 v4 σ3) (fun r4_ σ4 => f_X0_settleConnections_b71 b1 (fun v2 v3 v4 σ => f_X0_settleConnections_b20 b1 n_ v2 v3 v4 σ) (v2) (v3) (v4) (r4_) (v4) σ4))) else f_X0_settleConnections_b106 b1 (fun v2 v3 v4 σ => f_X0_settleConnections_b20 b1 n_ v2 v3 v4 σ) (v2) (v3) (v4) σ2)))) = some σ' := hf
    have hK20 := ih
    refine lv_iload C.1 C.2.1 (kd kX0_settleConnections_0 13 rfl) (lv_at hl 4 rfl) ?_
    refine lv_aload_n C.1 C.2.1 (kd kX0_settleConnections_0 14 rfl) rfl (lv_at hl 1 rfl) ?_
    refine fl_get (j := 4) (v := .ref (Γ.1 (b1 + 9))) C hP (fe_P h1) (fD_lt h1) rfl inX3 (Nat.le_of_ble_eq_true rfl) tw_125 rfl (kd kX0_settleConnections_0 15 rfl) ?_
    obtain ⟨r1_, σ1, hσ1, hf⟩ := fcall_some hf
    refine fl_i hS (fl_runV (As := []) (rest := [.int v4]) C hP (fe_T (fD_prt h1).2.2.2.2.1) (fD_lt (fD_prt h1).2.2.2.2.1) rfl (m_X5_size C.2.2.2.2.2.2.2.2 l (fD_prt h1).2.2.2.2.1 hσ1) (fgV tw_539 tw_414 tw_415 tw_69 tw_416) hd_X5_size ⟨rfl, rfl, Nat.le_of_ble_eq_true rfl, Nat.le_of_ble_eq_true rfl⟩ rfl hl.1 rfl (Nat.le_of_ble_eq_true rfl) (kd kX0_settleConnections_0 16 rfl)) (fun H locs hP hS => ?_)
    refine lv_icmp_ge (tgt := 112) C.1 C.2.1 (kd kX0_settleConnections_0 17 rfl) (by decide) (fun q => ?_) (fun q => ?_)
    · have hf := fif_pos q hf
      exact fl_vret C hP hS hf (kd kX0_settleConnections_1 1 rfl)
    have hf := fif_neg q hf
    refine lv_aload_n C.1 C.2.1 (kd kX0_settleConnections_0 18 rfl) rfl (lv_at hl 1 rfl) ?_
    refine fl_get (j := 4) (v := .ref (Γ.1 (b1 + 9))) C hP (fe_P h1) (fD_lt h1) rfl inX3 (Nat.le_of_ble_eq_true rfl) tw_125 rfl (kd kX0_settleConnections_0 19 rfl) ?_
    refine lv_iload C.1 C.2.1 (kd kX0_settleConnections_0 20 rfl) (lv_at hl 4 rfl) ?_
    refine lv_iconst (v := (0 : Int32)) C.1 C.2.1 (kd kX0_settleConnections_0 21 rfl) (by decide) ?_
    obtain ⟨r2_, σ2, hσ2, hf⟩ := fcall_some hf
    refine fl_i hS (fl_runV (As := [.int v4, .int (0 : Int32)]) (rest := []) C hP (fe_T (fD_prt h1).2.2.2.2.1) (fD_lt (fD_prt h1).2.2.2.2.1) rfl (m_X5_at C.2.2.2.2.2.2.2.2 l (fD_prt h1).2.2.2.2.1 hσ2) (fgV tw_543 tw_418 tw_419 tw_69 tw_420) hd_X5_at ⟨rfl, rfl, Nat.le_of_ble_eq_true rfl, Nat.le_of_ble_eq_true rfl⟩ rfl hl.1 rfl (Nat.le_of_ble_eq_true rfl) (kd kX0_settleConnections_0 22 rfl)) (fun H locs hP hS => ?_)
    refine lv_iload_n C.1 C.2.1 (kd kX0_settleConnections_0 23 rfl) rfl (lv_at hl 2 rfl) ?_
    refine lv_icmp_ne (tgt := 106) C.1 C.2.1 (kd kX0_settleConnections_0 24 rfl) (by decide) (fun q => ?_) (fun q => ?_)
    · have hf := fif_neg q hf
      exact w_X0_settleConnections_b106 h1 C hK20 (v2) (v3) (v4) σ2 H locs ls hf hP hS (lv_sub hl [0, 1, 2, 3, 4] rfl)
    have hf := fif_pos q hf
    refine lv_aload_n C.1 C.2.1 (kd kX0_settleConnections_0 25 rfl) rfl (lv_at hl 0 rfl) ?_
    refine fl_get (j := 5) (v := .ref (Γ.1 144)) C hP rfl (Nat.le_of_ble_eq_true rfl) rfl inX0 (Nat.le_of_ble_eq_true rfl) tw_182 rfl (kd kX0_settleConnections_0 26 rfl) ?_
    refine lv_iload C.1 C.2.1 (kd kX0_settleConnections_0 27 rfl) (lv_at hl 4 rfl) ?_
    refine lv_aload_n C.1 C.2.1 (kd kX0_settleConnections_0 28 rfl) rfl (lv_at hl 0 rfl) ?_
    refine lv_iload_n C.1 C.2.1 (kd kX0_settleConnections_0 29 rfl) rfl (lv_at hl 2 rfl) ?_
    obtain ⟨r3_, σ3, hσ3, hf⟩ := fcall_some hf
    refine fl_i hS (fl_runV (As := [.int v2]) (rest := [.int v4, .ref (Γ.1 144)]) C hP rfl (Nat.le_of_ble_eq_true rfl) rfl (m_X0_sails C.2.2.2.2.2.2.2.2 l  hσ3) (fgV tw_579 tw_580 tw_581 tw_71 tw_582) hd_X0_sails ⟨rfl, rfl, Nat.le_of_ble_eq_true rfl, Nat.le_of_ble_eq_true rfl⟩ rfl hl.1 rfl (Nat.le_of_ble_eq_true rfl) (kd kX0_settleConnections_0 30 rfl)) (fun H locs hP hS => ?_)
    refine lv_if_eq (tgt := 70) C.1 C.2.1 (kd kX0_settleConnections_0 31 rfl) (by decide) (fun q => ?_) (fun q => ?_)
    · have hf := fif_pos q hf
      refine lv_iconst (v := (2 : Int32)) C.1 C.2.1 (kd kX0_settleConnections_0 37 rfl) (by decide) ?_
      exact w_X0_settleConnections_b71 h1 C hK20 (v2) (v3) (v4) ((2 : Int32)) (v4) σ3 H locs ls hf hP hS (lv_sub hl [0, 1, 2, 3, 4] rfl)
    have hf := fif_neg q hf
    refine lv_aload_n C.1 C.2.1 (kd kX0_settleConnections_0 32 rfl) rfl (lv_at hl 1 rfl) ?_
    refine lv_iload_n C.1 C.2.1 (kd kX0_settleConnections_0 33 rfl) rfl (lv_at hl 2 rfl) ?_
    refine lv_iload C.1 C.2.1 (kd kX0_settleConnections_0 34 rfl) (lv_at hl 4 rfl) ?_
    obtain ⟨r4_, σ4, hσ4, hf⟩ := fcall_some hf
    refine fl_i hS (fl_runS (As := [.ref (Γ.1 b1), .int v2, .int v4]) (rest := [.int v4, .ref (Γ.1 144)]) C hP (m_X0_fateOf C.2.2.2.2.2.2.2.2 l h1 hσ4) (fgS tw_587 tw_588 tw_71 tw_589) hs_X0_fateOf ⟨rfl, rfl, Nat.le_of_ble_eq_true rfl, Nat.le_of_ble_eq_true rfl⟩ rfl hl.1 rfl (Nat.le_of_ble_eq_true rfl) (kd kX0_settleConnections_0 35 rfl)) (fun H locs hP hS => ?_)
    refine lv_goto (tgt := 71) C.1 C.2.1 (kd kX0_settleConnections_0 36 rfl) (by decide) ?_
    exact w_X0_settleConnections_b71 h1 C hK20 (v2) (v3) (v4) (r4_) (v4) σ4 H locs ls hf hP hS (lv_sub hl [0, 1, 2, 3, 4] rfl)
def f_X0_settleConnections (b1 : Nat) (x2 : Int32) (σ : fS) : Option (fS) := fcall (f_X5_at (b1 + 5) 12 4 x2 (3 : Int32) σ) (fun r1_ σ1 => fb x2 12 (fL (fu σ1 143 x2.toNatClampNeg (0 : Int32)) (fun σ2 => f_X0_settleConnections_b20 b1 fN (x2) (r1_) ((0 : Int32)) σ2)))
set_option maxRecDepth 100000 in
set_option maxHeartbeats 4000000 in
theorem m_X0_settleConnections {Γ : fGm} (hI : fI Γ) (l : Launch) {b1 : Nat} {x2 : Int32} (h1 : fD b1 = (3, 0, 0)) {σ : fS} {σ' : fS} (hf : f_X0_settleConnections b1 x2 σ = some σ') : Met l yX0_settleConnections (.code yX0_settleConnections cX0_settleConnections 5 none :: lw_g) ({ frames := 5, cells := 0, slots := 0, locals := 118 } : Room) (fPre Γ [.ref (Γ.1 138), .ref (Γ.1 b1), .int x2] σ) (fQv Γ σ') 0 0 (fAd Γ) := by
  refine fl_enter (own := RX0) hI (by decide +kernel) rfl (Nat.le_of_ble_eq_true rfl) ?_
  intro p e s m args below meth c ls C hl hP hS
  have hl : lv_has ls 5 [(0, .ref (Γ.1 138)), (1, .ref (Γ.1 b1)), (2, .int x2)] := hl
  obtain ⟨H, hH⟩ : ∃ H, H = s.heap := ⟨_, rfl⟩
  obtain ⟨locs, hL⟩ : ∃ L : List Loc, L = [] := ⟨_, rfl⟩
  have hP : fH Γ σ H := by rw [hH]; exact hP
  have hS : va_S (fAd Γ) s.heap H locs := by rw [hH, hL]; exact hS
  suffices hw : W p l e ({ frames := 5, cells := 0, slots := 0, locals := 118 } : Room) s m args below meth c H locs 0 0 (MQ below (fQv Γ σ') args s 0 0 (fAd Γ)) (F0 m 0 ls []) by rw [hH, hL] at hw; exact hw
  unfold f_X0_settleConnections at hf
  refine lv_aload_n C.1 C.2.1 (kd kX0_settleConnections_0 0 rfl) rfl (lv_at hl 1 rfl) ?_
  refine fl_get (j := 2) (v := .ref (Γ.1 (b1 + 5))) C hP (fe_P h1) (fD_lt h1) rfl inX3 (Nat.le_of_ble_eq_true rfl) tw_118 rfl (kd kX0_settleConnections_0 1 rfl) ?_
  refine lv_iload_n C.1 C.2.1 (kd kX0_settleConnections_0 2 rfl) rfl (lv_at hl 2 rfl) ?_
  refine lv_iconst (v := (3 : Int32)) C.1 C.2.1 (kd kX0_settleConnections_0 3 rfl) (by decide) ?_
  obtain ⟨r1_, σ1, hσ1, hf⟩ := fcall_some hf
  refine fl_i hS (fl_runV (As := [.int x2, .int (3 : Int32)]) (rest := []) C hP (fe_T (fD_prt h1).2.2.1) (fD_lt (fD_prt h1).2.2.1) rfl (m_X5_at C.2.2.2.2.2.2.2.2 l (fD_prt h1).2.2.1 hσ1) (fgV tw_543 tw_418 tw_419 tw_69 tw_420) hd_X5_at ⟨rfl, rfl, Nat.le_of_ble_eq_true rfl, Nat.le_of_ble_eq_true rfl⟩ rfl hl.1 rfl (Nat.le_of_ble_eq_true rfl) (kd kX0_settleConnections_0 4 rfl)) (fun H locs hP hS => ?_)
  refine lv_istore_n (lv' := [(3, .int r1_), (0, .ref (Γ.1 138)), (1, .ref (Γ.1 b1)), (2, .int x2)]) C.1 C.2.1 (kd kX0_settleConnections_0 5 rfl) rfl hl (Nat.le_of_ble_eq_true rfl) rfl (fun ls hl => ?_)
  refine lv_aload_n C.1 C.2.1 (kd kX0_settleConnections_0 6 rfl) rfl (lv_at hl 1 rfl) ?_
  refine fl_get (j := 4) (v := .ref (Γ.1 143)) C hP rfl (Nat.le_of_ble_eq_true rfl) rfl inX0 (Nat.le_of_ble_eq_true rfl) tw_181 rfl (kd kX0_settleConnections_0 7 rfl) ?_
  refine lv_iload_n C.1 C.2.1 (kd kX0_settleConnections_0 8 rfl) rfl (lv_at hl 3 rfl) ?_
  refine lv_iconst (v := (0 : Int32)) C.1 C.2.1 (kd kX0_settleConnections_0 9 rfl) (by decide) ?_
  obtain ⟨hq, hf⟩ := fb_some hf
  obtain ⟨σ2, eσ2, hf⟩ := fL_some hf
  refine fl_iast C hP hS rfl hq (kd kX0_settleConnections_0 10 rfl) (fun H locs hP hS => ?_)
  have hP : fH Γ σ2 H := by rw [eσ2]; exact hP
  refine lv_iconst (v := (0 : Int32)) C.1 C.2.1 (kd kX0_settleConnections_0 11 rfl) (by decide) ?_
  refine lv_istore (lv' := [(4, .int (0 : Int32)), (3, .int r1_), (0, .ref (Γ.1 138)), (1, .ref (Γ.1 b1)), (2, .int x2)]) C.1 C.2.1 (kd kX0_settleConnections_0 12 rfl) hl (Nat.le_of_ble_eq_true rfl) rfl (fun ls hl => ?_)
  exact w_X0_settleConnections_b20 h1 C fN (x2) (r1_) ((0 : Int32)) σ2 H locs ls hf hP hS (lv_sub hl [2, 3, 4, 1, 0] rfl)
def f_X0_make_b41 (b1 : Nat) : Nat → Int32 → fS → Option (fS)
  | 0, _, _ => none
  | n_ + 1, v2, σ => fcall (f_X5_size (b1 + 5) 12 4 σ) (fun r1_ σ1 => (if r1_ ≤ v2 then some σ1 else fcallv (f_X0_decide b1 v2 σ1) (fun σ2 => fb v2 12 (fcallv (f_X0_settleConnections b1 (σ2 139 v2.toNatClampNeg) σ2) (fun σ3 => (fun v2 σ => f_X0_make_b41 b1 n_ v2 σ) ((v2 + (1 : Int32))) σ3)))))
set_option maxRecDepth 100000 in
set_option maxHeartbeats 4000000 in
theorem w_X0_make_b41 {b1 : Nat} {σ' : fS} (h1 : fD b1 = (3, 0, 0))  (C : fC Γ p s m args meth c cX0_make none RX0 4) : ∀ (n_ : Nat) (v2 : Int32) (σ : fS) (H : Heap) (locs : List Loc) (ls : Array Slot), f_X0_make_b41 b1 n_ v2 σ = some σ' → fH Γ σ H → va_S (fAd Γ) s.heap H locs → lv_has ls 4 [(0, .ref (Γ.1 138)), (1, .ref (Γ.1 b1)), (2, .int v2)] → W p l e ({ frames := 6, cells := 0, slots := 0, locals := 142 } : Room) s m args below meth c H locs 0 0 (MQ below (fQv Γ σ') args s 0 0 (fAd Γ)) (F0 m 41 ls []) := by
  intro n_
  induction n_ with
  | zero =>
    intro v2 σ H locs ls hf
    cases hf
  | succ n_ ih =>
    intro v2 σ H locs ls hf hP hS hl
    have hf : fcall (f_X5_size (b1 + 5) 12 4 σ) (fun r1_ σ1 => (if r1_ ≤ v2 then some σ1 else fcallv (f_X0_decide b1 v2 σ1) (fun σ2 => fb v2 12 (fcallv (f_X0_settleConnections b1 (σ2 139 v2.toNatClampNeg) σ2) (fun σ3 => (fun v2 σ => f_X0_make_b41 b1 n_ v2 σ) ((v2 + (1 : Int32))) σ3))))) = some σ' := hf
    have hK41 := ih
    refine lv_iload_n C.1 C.2.1 (kd kX0_make_0 25 rfl) rfl (lv_at hl 2 rfl) ?_
    refine lv_aload_n C.1 C.2.1 (kd kX0_make_0 26 rfl) rfl (lv_at hl 1 rfl) ?_
    refine fl_get (j := 2) (v := .ref (Γ.1 (b1 + 5))) C hP (fe_P h1) (fD_lt h1) rfl inX3 (Nat.le_of_ble_eq_true rfl) tw_118 rfl (kd kX0_make_0 27 rfl) ?_
    obtain ⟨r1_, σ1, hσ1, hf⟩ := fcall_some hf
    refine fl_i hS (fl_runV (As := []) (rest := [.int v2]) C hP (fe_T (fD_prt h1).2.2.1) (fD_lt (fD_prt h1).2.2.1) rfl (m_X5_size C.2.2.2.2.2.2.2.2 l (fD_prt h1).2.2.1 hσ1) (fgV tw_539 tw_414 tw_415 tw_69 tw_416) hd_X5_size ⟨rfl, rfl, Nat.le_of_ble_eq_true rfl, Nat.le_of_ble_eq_true rfl⟩ rfl hl.1 rfl (Nat.le_of_ble_eq_true rfl) (kd kX0_make_0 28 rfl)) (fun H locs hP hS => ?_)
    refine lv_icmp_ge (tgt := 75) C.1 C.2.1 (kd kX0_make_0 29 rfl) (by decide) (fun q => ?_) (fun q => ?_)
    · have hf := fif_pos q hf
      exact fl_vret C hP hS hf (kd kX0_make_0 43 rfl)
    have hf := fif_neg q hf
    refine lv_aload_n C.1 C.2.1 (kd kX0_make_0 30 rfl) rfl (lv_at hl 0 rfl) ?_
    refine lv_aload_n C.1 C.2.1 (kd kX0_make_0 31 rfl) rfl (lv_at hl 1 rfl) ?_
    refine lv_iload_n C.1 C.2.1 (kd kX0_make_0 32 rfl) rfl (lv_at hl 2 rfl) ?_
    obtain ⟨σ2, hσ2, hf⟩ := fcallv_some hf
    refine fl_v hS (fl_runV (As := [.ref (Γ.1 b1), .int v2]) (rest := []) C hP rfl (Nat.le_of_ble_eq_true rfl) rfl (m_X0_decide C.2.2.2.2.2.2.2.2 l h1 hσ2) (fgV tw_544 tw_546 tw_7 tw_71 tw_547) hd_X0_decide ⟨rfl, rfl, Nat.le_of_ble_eq_true rfl, Nat.le_of_ble_eq_true rfl⟩ rfl hl.1 rfl (Nat.le_of_ble_eq_true rfl) (kd kX0_make_0 33 rfl)) (fun H locs hP hS => ?_)
    refine lv_aload_n C.1 C.2.1 (kd kX0_make_0 34 rfl) rfl (lv_at hl 0 rfl) ?_
    refine lv_aload_n C.1 C.2.1 (kd kX0_make_0 35 rfl) rfl (lv_at hl 1 rfl) ?_
    refine lv_aload_n C.1 C.2.1 (kd kX0_make_0 36 rfl) rfl (lv_at hl 0 rfl) ?_
    refine fl_get (j := 0) (v := .ref (Γ.1 139)) C hP rfl (Nat.le_of_ble_eq_true rfl) rfl inX0 (Nat.le_of_ble_eq_true rfl) tw_175 rfl (kd kX0_make_0 37 rfl) ?_
    refine lv_iload_n C.1 C.2.1 (kd kX0_make_0 38 rfl) rfl (lv_at hl 2 rfl) ?_
    obtain ⟨hq, hf⟩ := fb_some hf
    refine fl_iald C hP rfl hq (kd kX0_make_0 39 rfl) ?_
    obtain ⟨σ3, hσ3, hf⟩ := fcallv_some hf
    refine fl_v hS (fl_runV (As := [.ref (Γ.1 b1), .int (σ2 139 v2.toNatClampNeg)]) (rest := []) C hP rfl (Nat.le_of_ble_eq_true rfl) rfl (m_X0_settleConnections C.2.2.2.2.2.2.2.2 l h1 hσ3) (fgV tw_583 tw_585 tw_9 tw_71 tw_586) hd_X0_settleConnections ⟨rfl, rfl, Nat.le_of_ble_eq_true rfl, Nat.le_of_ble_eq_true rfl⟩ rfl hl.1 rfl (Nat.le_of_ble_eq_true rfl) (kd kX0_make_0 40 rfl)) (fun H locs hP hS => ?_)
    refine lv_iinc (v := (v2 + (1 : Int32))) (lv' := [(2, .int (v2 + (1 : Int32))), (0, .ref (Γ.1 138)), (1, .ref (Γ.1 b1))]) C.1 C.2.1 (kd kX0_make_0 41 rfl) hl (k := 2) rfl rfl (Nat.le_of_ble_eq_true rfl) rfl (fun ls hl => ?_)
    refine lv_goto (tgt := 41) C.1 C.2.1 (kd kX0_make_0 42 rfl) (by decide) ?_
    exact hK41 ((v2 + (1 : Int32))) σ3 H locs ls hf hP hS (lv_sub hl [1, 2, 0] rfl)
def f_X0_make_b2 (b1 : Nat) : Nat → Int32 → fS → Option (fS)
  | 0, _, _ => none
  | n_ + 1, v2, σ => fcall (f_X5_size (b1 + 5) 12 4 σ) (fun r1_ σ1 => (if r1_ ≤ v2 then f_X0_make_b41 b1 fN ((0 : Int32)) σ1 else fcall (f_X0_countBefore b1 v2 σ1) (fun r2_ σ2 => fb v2 12 (fL (fu σ2 140 v2.toNatClampNeg r2_) (fun σ3 => fb r2_ 12 (fL (fu σ3 139 r2_.toNatClampNeg v2) (fun σ4 => (fun v2 σ => f_X0_make_b2 b1 n_ v2 σ) ((v2 + (1 : Int32))) σ4)))))))
set_option maxRecDepth 100000 in
set_option maxHeartbeats 4000000 in
theorem w_X0_make_b2 {b1 : Nat} {σ' : fS} (h1 : fD b1 = (3, 0, 0))  (C : fC Γ p s m args meth c cX0_make none RX0 4) : ∀ (n_ : Nat) (v2 : Int32) (σ : fS) (H : Heap) (locs : List Loc) (ls : Array Slot), f_X0_make_b2 b1 n_ v2 σ = some σ' → fH Γ σ H → va_S (fAd Γ) s.heap H locs → lv_has ls 4 [(0, .ref (Γ.1 138)), (1, .ref (Γ.1 b1)), (2, .int v2)] → W p l e ({ frames := 6, cells := 0, slots := 0, locals := 142 } : Room) s m args below meth c H locs 0 0 (MQ below (fQv Γ σ') args s 0 0 (fAd Γ)) (F0 m 2 ls []) := by
  intro n_
  induction n_ with
  | zero =>
    intro v2 σ H locs ls hf
    cases hf
  | succ n_ ih =>
    intro v2 σ H locs ls hf hP hS hl
    have hf : fcall (f_X5_size (b1 + 5) 12 4 σ) (fun r1_ σ1 => (if r1_ ≤ v2 then f_X0_make_b41 b1 fN ((0 : Int32)) σ1 else fcall (f_X0_countBefore b1 v2 σ1) (fun r2_ σ2 => fb v2 12 (fL (fu σ2 140 v2.toNatClampNeg r2_) (fun σ3 => fb r2_ 12 (fL (fu σ3 139 r2_.toNatClampNeg v2) (fun σ4 => (fun v2 σ => f_X0_make_b2 b1 n_ v2 σ) ((v2 + (1 : Int32))) σ4))))))) = some σ' := hf
    have hK2 := ih
    refine lv_iload_n C.1 C.2.1 (kd kX0_make_0 2 rfl) rfl (lv_at hl 2 rfl) ?_
    refine lv_aload_n C.1 C.2.1 (kd kX0_make_0 3 rfl) rfl (lv_at hl 1 rfl) ?_
    refine fl_get (j := 2) (v := .ref (Γ.1 (b1 + 5))) C hP (fe_P h1) (fD_lt h1) rfl inX3 (Nat.le_of_ble_eq_true rfl) tw_118 rfl (kd kX0_make_0 4 rfl) ?_
    obtain ⟨r1_, σ1, hσ1, hf⟩ := fcall_some hf
    refine fl_i hS (fl_runV (As := []) (rest := [.int v2]) C hP (fe_T (fD_prt h1).2.2.1) (fD_lt (fD_prt h1).2.2.1) rfl (m_X5_size C.2.2.2.2.2.2.2.2 l (fD_prt h1).2.2.1 hσ1) (fgV tw_539 tw_414 tw_415 tw_69 tw_416) hd_X5_size ⟨rfl, rfl, Nat.le_of_ble_eq_true rfl, Nat.le_of_ble_eq_true rfl⟩ rfl hl.1 rfl (Nat.le_of_ble_eq_true rfl) (kd kX0_make_0 5 rfl)) (fun H locs hP hS => ?_)
    refine lv_icmp_ge (tgt := 39) C.1 C.2.1 (kd kX0_make_0 6 rfl) (by decide) (fun q => ?_) (fun q => ?_)
    · have hf := fif_pos q hf
      refine lv_iconst (v := (0 : Int32)) C.1 C.2.1 (kd kX0_make_0 23 rfl) (by decide) ?_
      refine lv_istore_n (lv' := [(2, .int (0 : Int32)), (0, .ref (Γ.1 138)), (1, .ref (Γ.1 b1))]) C.1 C.2.1 (kd kX0_make_0 24 rfl) rfl hl (Nat.le_of_ble_eq_true rfl) rfl (fun ls hl => ?_)
      exact w_X0_make_b41 h1 C fN ((0 : Int32)) σ1 H locs ls hf hP hS (lv_sub hl [1, 2, 0] rfl)
    have hf := fif_neg q hf
    refine lv_aload_n C.1 C.2.1 (kd kX0_make_0 7 rfl) rfl (lv_at hl 1 rfl) ?_
    refine lv_iload_n C.1 C.2.1 (kd kX0_make_0 8 rfl) rfl (lv_at hl 2 rfl) ?_
    obtain ⟨r2_, σ2, hσ2, hf⟩ := fcall_some hf
    refine fl_i hS (fl_runS (As := [.ref (Γ.1 b1), .int v2]) (rest := []) C hP (m_X0_countBefore C.2.2.2.2.2.2.2.2 l h1 hσ2) (fgS tw_540 tw_541 tw_71 tw_542) hs_X0_countBefore ⟨rfl, rfl, Nat.le_of_ble_eq_true rfl, Nat.le_of_ble_eq_true rfl⟩ rfl hl.1 rfl (Nat.le_of_ble_eq_true rfl) (kd kX0_make_0 9 rfl)) (fun H locs hP hS => ?_)
    refine lv_istore_n (lv' := [(3, .int r2_), (0, .ref (Γ.1 138)), (1, .ref (Γ.1 b1)), (2, .int v2)]) C.1 C.2.1 (kd kX0_make_0 10 rfl) rfl hl (Nat.le_of_ble_eq_true rfl) rfl (fun ls hl => ?_)
    refine lv_aload_n C.1 C.2.1 (kd kX0_make_0 11 rfl) rfl (lv_at hl 1 rfl) ?_
    refine fl_get (j := 1) (v := .ref (Γ.1 140)) C hP rfl (Nat.le_of_ble_eq_true rfl) rfl inX0 (Nat.le_of_ble_eq_true rfl) tw_178 rfl (kd kX0_make_0 12 rfl) ?_
    refine lv_iload_n C.1 C.2.1 (kd kX0_make_0 13 rfl) rfl (lv_at hl 3 rfl) ?_
    refine lv_iload_n C.1 C.2.1 (kd kX0_make_0 14 rfl) rfl (lv_at hl 0 rfl) ?_
    obtain ⟨hq, hf⟩ := fb_some hf
    obtain ⟨σ3, eσ3, hf⟩ := fL_some hf
    refine fl_iast C hP hS rfl hq (kd kX0_make_0 15 rfl) (fun H locs hP hS => ?_)
    have hP : fH Γ σ3 H := by rw [eσ3]; exact hP
    refine lv_aload_n C.1 C.2.1 (kd kX0_make_0 16 rfl) rfl (lv_at hl 1 rfl) ?_
    refine fl_get (j := 0) (v := .ref (Γ.1 139)) C hP rfl (Nat.le_of_ble_eq_true rfl) rfl inX0 (Nat.le_of_ble_eq_true rfl) tw_175 rfl (kd kX0_make_0 17 rfl) ?_
    refine lv_iload_n C.1 C.2.1 (kd kX0_make_0 18 rfl) rfl (lv_at hl 0 rfl) ?_
    refine lv_iload_n C.1 C.2.1 (kd kX0_make_0 19 rfl) rfl (lv_at hl 3 rfl) ?_
    obtain ⟨hq, hf⟩ := fb_some hf
    obtain ⟨σ4, eσ4, hf⟩ := fL_some hf
    refine fl_iast C hP hS rfl hq (kd kX0_make_0 20 rfl) (fun H locs hP hS => ?_)
    have hP : fH Γ σ4 H := by rw [eσ4]; exact hP
    refine lv_iinc (v := (v2 + (1 : Int32))) (lv' := [(2, .int (v2 + (1 : Int32))), (3, .int r2_), (0, .ref (Γ.1 138)), (1, .ref (Γ.1 b1))]) C.1 C.2.1 (kd kX0_make_0 21 rfl) hl (k := 3) rfl rfl (Nat.le_of_ble_eq_true rfl) rfl (fun ls hl => ?_)
    refine lv_goto (tgt := 2) C.1 C.2.1 (kd kX0_make_0 22 rfl) (by decide) ?_
    exact hK2 ((v2 + (1 : Int32))) σ4 H locs ls hf hP hS (lv_sub hl [2, 3, 0] rfl)
def f_X0_make (b1 : Nat) (σ : fS) : Option (fS) := f_X0_make_b2 b1 fN ((0 : Int32)) σ
set_option maxRecDepth 100000 in
set_option maxHeartbeats 4000000 in
theorem m_X0_make {Γ : fGm} (hI : fI Γ) (l : Launch) {b1 : Nat} (h1 : fD b1 = (3, 0, 0)) {σ : fS} {σ' : fS} (hf : f_X0_make b1 σ = some σ') : Met l yX0_make (.code yX0_make cX0_make 4 none :: lw_g) ({ frames := 6, cells := 0, slots := 0, locals := 142 } : Room) (fPre Γ [.ref (Γ.1 138), .ref (Γ.1 b1)] σ) (fQv Γ σ') 0 0 (fAd Γ) := by
  refine fl_enter (own := RX0) hI (by decide +kernel) rfl (Nat.le_of_ble_eq_true rfl) ?_
  intro p e s m args below meth c ls C hl hP hS
  have hl : lv_has ls 4 [(0, .ref (Γ.1 138)), (1, .ref (Γ.1 b1))] := hl
  obtain ⟨H, hH⟩ : ∃ H, H = s.heap := ⟨_, rfl⟩
  obtain ⟨locs, hL⟩ : ∃ L : List Loc, L = [] := ⟨_, rfl⟩
  have hP : fH Γ σ H := by rw [hH]; exact hP
  have hS : va_S (fAd Γ) s.heap H locs := by rw [hH, hL]; exact hS
  suffices hw : W p l e ({ frames := 6, cells := 0, slots := 0, locals := 142 } : Room) s m args below meth c H locs 0 0 (MQ below (fQv Γ σ') args s 0 0 (fAd Γ)) (F0 m 0 ls []) by rw [hH, hL] at hw; exact hw
  unfold f_X0_make at hf
  refine lv_iconst (v := (0 : Int32)) C.1 C.2.1 (kd kX0_make_0 0 rfl) (by decide) ?_
  refine lv_istore_n (lv' := [(2, .int (0 : Int32)), (0, .ref (Γ.1 138)), (1, .ref (Γ.1 b1))]) C.1 C.2.1 (kd kX0_make_0 1 rfl) rfl hl (Nat.le_of_ble_eq_true rfl) rfl (fun ls hl => ?_)
  exact w_X0_make_b2 h1 C fN ((0 : Int32)) σ H locs ls hf hP hS (lv_sub hl [1, 2, 0] rfl)
def f_X0_tell (x1 : Int32) (x2 : Int32) (σ : fS) : Option (Int32 × fS) := (if x2 = (4 : Int32) then fb x1 12 (some ((σ 143 x1.toNatClampNeg), σ)) else if x2 = (5 : Int32) then fb x1 12 (some ((σ 141 x1.toNatClampNeg), σ)) else if x2 = (6 : Int32) then fb x1 12 (some ((σ 142 x1.toNatClampNeg), σ)) else fb x1 12 (some ((σ 140 x1.toNatClampNeg), σ)))
set_option maxRecDepth 100000 in
set_option maxHeartbeats 4000000 in
theorem m_X0_tell {Γ : fGm} (hI : fI Γ) (l : Launch) {x1 : Int32} {x2 : Int32} {σ : fS} {r : Int32} {σ' : fS} (hf : f_X0_tell x1 x2 σ = some (r, σ')) : Met l yX0_tell (.code yX0_tell cX0_tell 3 (some .int) :: lw_g) ({ frames := 0, cells := 0, slots := 0, locals := 0 } : Room) (fPre Γ [.ref (Γ.1 138), .int x1, .int x2] σ) (fQi Γ r σ') 0 0 (fAd Γ) := by
  refine fl_enter (own := RX0) hI (by decide +kernel) rfl (Nat.le_of_ble_eq_true rfl) ?_
  intro p e s m args below meth c ls C hl hP hS
  have hl : lv_has ls 3 [(0, .ref (Γ.1 138)), (1, .int x1), (2, .int x2)] := hl
  obtain ⟨H, hH⟩ : ∃ H, H = s.heap := ⟨_, rfl⟩
  obtain ⟨locs, hL⟩ : ∃ L : List Loc, L = [] := ⟨_, rfl⟩
  have hP : fH Γ σ H := by rw [hH]; exact hP
  have hS : va_S (fAd Γ) s.heap H locs := by rw [hH, hL]; exact hS
  suffices hw : W p l e ({ frames := 0, cells := 0, slots := 0, locals := 0 } : Room) s m args below meth c H locs 0 0 (MQ below (fQi Γ r σ') args s 0 0 (fAd Γ)) (F0 m 0 ls []) by rw [hH, hL] at hw; exact hw
  unfold f_X0_tell at hf
  refine lv_iload_n C.1 C.2.1 (kd kX0_tell_0 0 rfl) rfl (lv_at hl 2 rfl) ?_
  by_cases q0 : x2 = (4 : Int32)
  · have hf := fif_pos q0 hf
    refine lv_tableIn (tgt := 28) C.1 C.2.1 (kd kX0_tell_0 1 rfl) (by rw [q0] <;> decide) (by rw [q0] <;> decide) (by rw [q0] <;> rfl) (by decide) ?_
    refine lv_aload_n C.1 C.2.1 (kd kX0_tell_0 2 rfl) rfl (lv_at hl 0 rfl) ?_
    refine fl_get (j := 4) (v := .ref (Γ.1 143)) C hP rfl (Nat.le_of_ble_eq_true rfl) rfl inX0 (Nat.le_of_ble_eq_true rfl) tw_181 rfl (kd kX0_tell_0 3 rfl) ?_
    refine lv_iload_n C.1 C.2.1 (kd kX0_tell_0 4 rfl) rfl (lv_at hl 1 rfl) ?_
    obtain ⟨hq, hf⟩ := fb_some hf
    refine fl_iald C hP rfl hq (kd kX0_tell_0 5 rfl) ?_
    exact fl_iret C hP hS hf (kd kX0_tell_0 6 rfl)
  have hf := fif_neg q0 hf
  have z0 : ¬ x2.toInt = 4 := fi_ne q0 (by decide)
  by_cases q1 : x2 = (5 : Int32)
  · have hf := fif_pos q1 hf
    refine lv_tableIn (tgt := 35) C.1 C.2.1 (kd kX0_tell_0 1 rfl) (by rw [q1] <;> decide) (by rw [q1] <;> decide) (by rw [q1] <;> rfl) (by decide) ?_
    refine lv_aload_n C.1 C.2.1 (kd kX0_tell_0 7 rfl) rfl (lv_at hl 0 rfl) ?_
    refine fl_get (j := 2) (v := .ref (Γ.1 141)) C hP rfl (Nat.le_of_ble_eq_true rfl) rfl inX0 (Nat.le_of_ble_eq_true rfl) tw_179 rfl (kd kX0_tell_0 8 rfl) ?_
    refine lv_iload_n C.1 C.2.1 (kd kX0_tell_0 9 rfl) rfl (lv_at hl 1 rfl) ?_
    obtain ⟨hq, hf⟩ := fb_some hf
    refine fl_iald C hP rfl hq (kd kX0_tell_0 10 rfl) ?_
    exact fl_iret C hP hS hf (kd kX0_tell_0 11 rfl)
  have hf := fif_neg q1 hf
  have z1 : ¬ x2.toInt = 5 := fi_ne q1 (by decide)
  by_cases q2 : x2 = (6 : Int32)
  · have hf := fif_pos q2 hf
    refine lv_tableIn (tgt := 42) C.1 C.2.1 (kd kX0_tell_0 1 rfl) (by rw [q2] <;> decide) (by rw [q2] <;> decide) (by rw [q2] <;> rfl) (by decide) ?_
    refine lv_aload_n C.1 C.2.1 (kd kX0_tell_0 12 rfl) rfl (lv_at hl 0 rfl) ?_
    refine fl_get (j := 3) (v := .ref (Γ.1 142)) C hP rfl (Nat.le_of_ble_eq_true rfl) rfl inX0 (Nat.le_of_ble_eq_true rfl) tw_180 rfl (kd kX0_tell_0 13 rfl) ?_
    refine lv_iload_n C.1 C.2.1 (kd kX0_tell_0 14 rfl) rfl (lv_at hl 1 rfl) ?_
    obtain ⟨hq, hf⟩ := fb_some hf
    refine fl_iald C hP rfl hq (kd kX0_tell_0 15 rfl) ?_
    exact fl_iret C hP hS hf (kd kX0_tell_0 16 rfl)
  have hf := fif_neg q2 hf
  have z2 : ¬ x2.toInt = 6 := fi_ne q2 (by decide)
  refine lv_tableOut (tgt := 49) C.1 C.2.1 (kd kX0_tell_0 1 rfl) (by omega) (by decide) ?_
  refine lv_aload_n C.1 C.2.1 (kd kX0_tell_0 17 rfl) rfl (lv_at hl 0 rfl) ?_
  refine fl_get (j := 1) (v := .ref (Γ.1 140)) C hP rfl (Nat.le_of_ble_eq_true rfl) rfl inX0 (Nat.le_of_ble_eq_true rfl) tw_178 rfl (kd kX0_tell_0 18 rfl) ?_
  refine lv_iload_n C.1 C.2.1 (kd kX0_tell_0 19 rfl) rfl (lv_at hl 1 rfl) ?_
  obtain ⟨hq, hf⟩ := fb_some hf
  refine fl_iald C hP rfl hq (kd kX0_tell_0 20 rfl) ?_
  exact fl_iret C hP hS hf (kd kX0_tell_0 21 rfl)
def f_X0_nextSailing_b73 (b1 : Nat) (K20 : Int32 → Int32 → fS → Option (Int32 × fS)) (v3 : Int32) (v4 : Int32) (σ : fS) : Option (Int32 × fS) := K20 (v3) ((v4 + (1 : Int32))) σ
set_option maxRecDepth 100000 in
set_option maxHeartbeats 4000000 in
theorem w_X0_nextSailing_b73 {b1 : Nat} {r : Int32} {σ' : fS} {K20 : Int32 → Int32 → fS → Option (Int32 × fS)} (h1 : fD b1 = (3, 0, 0))  (C : fC Γ p s m args meth c cX0_nextSailing (some .int) RX0 5) (hK20 : ∀ (v3 : Int32) (v4 : Int32) (σ : fS) (H : Heap) (locs : List Loc) (ls : Array Slot), K20 v3 v4 σ = some (r, σ') → fH Γ σ H → va_S (fAd Γ) s.heap H locs → lv_has ls 5 [(0, .ref (Γ.1 138)), (1, .ref (Γ.1 b1)), (3, .int v3), (4, .int v4)] → W p l e ({ frames := 1, cells := 0, slots := 0, locals := 22 } : Room) s m args below meth c H locs 0 0 (MQ below (fQi Γ r σ') args s 0 0 (fAd Γ)) (F0 m 20 ls [])) : ∀ (v3 : Int32) (v4 : Int32) (σ : fS) (H : Heap) (locs : List Loc) (ls : Array Slot), f_X0_nextSailing_b73 b1 K20 v3 v4 σ = some (r, σ') → fH Γ σ H → va_S (fAd Γ) s.heap H locs → lv_has ls 5 [(0, .ref (Γ.1 138)), (1, .ref (Γ.1 b1)), (3, .int v3), (4, .int v4)] → W p l e ({ frames := 1, cells := 0, slots := 0, locals := 22 } : Room) s m args below meth c H locs 0 0 (MQ below (fQi Γ r σ') args s 0 0 (fAd Γ)) (F0 m 73 ls []) := by
  intro v3 v4 σ H locs ls hf hP hS hl
  unfold f_X0_nextSailing_b73 at hf
  refine lv_iinc (v := (v4 + (1 : Int32))) (lv' := [(4, .int (v4 + (1 : Int32))), (0, .ref (Γ.1 138)), (1, .ref (Γ.1 b1)), (3, .int v3)]) C.1 C.2.1 (kd kX0_nextSailing_0 40 rfl) hl (k := 3) rfl rfl (Nat.le_of_ble_eq_true rfl) rfl (fun ls hl => ?_)
  refine lv_goto (tgt := 20) C.1 C.2.1 (kd kX0_nextSailing_0 41 rfl) (by decide) ?_
  exact hK20 (v3) ((v4 + (1 : Int32))) σ H locs ls hf hP hS (lv_sub hl [1, 2, 3, 0] rfl)
def f_X0_nextSailing_b20 (b1 : Nat) : Nat → Int32 → Int32 → fS → Option (Int32 × fS)
  | 0, _, _, _ => none
  | n_ + 1, v3, v4, σ => fcall (f_X5_size (b1 + 5) 12 4 σ) (fun r1_ σ1 => (if r1_ ≤ v4 then some ((-10004 : Int32), σ1) else fb v4 12 (fcall (f_X0_sails (σ1 139 v4.toNatClampNeg) σ1) (fun r2_ σ2 => (if r2_ = 0 then f_X0_nextSailing_b73 b1 (fun v3 v4 σ => f_X0_nextSailing_b20 b1 n_ v3 v4 σ) (v3) (v4) σ2 else fb v4 12 (fcall (f_X5_at (b1 + 5) 12 4 (σ2 139 v4.toNatClampNeg) (3 : Int32) σ2) (fun r3_ σ3 => (if r3_ ≤ v3 then f_X0_nextSailing_b73 b1 (fun v3 v4 σ => f_X0_nextSailing_b20 b1 n_ v3 v4 σ) (v3) (v4) σ3 else fb v4 12 (some ((σ3 139 v4.toNatClampNeg), σ3))))))))))
set_option maxRecDepth 100000 in
set_option maxHeartbeats 4000000 in
theorem w_X0_nextSailing_b20 {b1 : Nat} {r : Int32} {σ' : fS} (h1 : fD b1 = (3, 0, 0))  (C : fC Γ p s m args meth c cX0_nextSailing (some .int) RX0 5) : ∀ (n_ : Nat) (v3 : Int32) (v4 : Int32) (σ : fS) (H : Heap) (locs : List Loc) (ls : Array Slot), f_X0_nextSailing_b20 b1 n_ v3 v4 σ = some (r, σ') → fH Γ σ H → va_S (fAd Γ) s.heap H locs → lv_has ls 5 [(0, .ref (Γ.1 138)), (1, .ref (Γ.1 b1)), (3, .int v3), (4, .int v4)] → W p l e ({ frames := 1, cells := 0, slots := 0, locals := 22 } : Room) s m args below meth c H locs 0 0 (MQ below (fQi Γ r σ') args s 0 0 (fAd Γ)) (F0 m 20 ls []) := by
  intro n_
  induction n_ with
  | zero =>
    intro v3 v4 σ H locs ls hf
    cases hf
  | succ n_ ih =>
    intro v3 v4 σ H locs ls hf hP hS hl
    have hf : fcall (f_X5_size (b1 + 5) 12 4 σ) (fun r1_ σ1 => (if r1_ ≤ v4 then some ((-10004 : Int32), σ1) else fb v4 12 (fcall (f_X0_sails (σ1 139 v4.toNatClampNeg) σ1) (fun r2_ σ2 => (if r2_ = 0 then f_X0_nextSailing_b73 b1 (fun v3 v4 σ => f_X0_nextSailing_b20 b1 n_ v3 v4 σ) (v3) (v4) σ2 else fb v4 12 (fcall (f_X5_at (b1 + 5) 12 4 (σ2 139 v4.toNatClampNeg) (3 : Int32) σ2) (fun r3_ σ3 => (if r3_ ≤ v3 then f_X0_nextSailing_b73 b1 (fun v3 v4 σ => f_X0_nextSailing_b20 b1 n_ v3 v4 σ) (v3) (v4) σ3 else fb v4 12 (some ((σ3 139 v4.toNatClampNeg), σ3)))))))))) = some (r, σ') := hf
    have hK20 := ih
    refine lv_iload C.1 C.2.1 (kd kX0_nextSailing_0 13 rfl) (lv_at hl 3 rfl) ?_
    refine lv_aload_n C.1 C.2.1 (kd kX0_nextSailing_0 14 rfl) rfl (lv_at hl 1 rfl) ?_
    refine fl_get (j := 2) (v := .ref (Γ.1 (b1 + 5))) C hP (fe_P h1) (fD_lt h1) rfl inX3 (Nat.le_of_ble_eq_true rfl) tw_118 rfl (kd kX0_nextSailing_0 15 rfl) ?_
    obtain ⟨r1_, σ1, hσ1, hf⟩ := fcall_some hf
    refine fl_i hS (fl_runV (As := []) (rest := [.int v4]) C hP (fe_T (fD_prt h1).2.2.1) (fD_lt (fD_prt h1).2.2.1) rfl (m_X5_size C.2.2.2.2.2.2.2.2 l (fD_prt h1).2.2.1 hσ1) (fgV tw_539 tw_414 tw_415 tw_69 tw_416) hd_X5_size ⟨rfl, rfl, Nat.le_of_ble_eq_true rfl, Nat.le_of_ble_eq_true rfl⟩ rfl hl.1 rfl (Nat.le_of_ble_eq_true rfl) (kd kX0_nextSailing_0 16 rfl)) (fun H locs hP hS => ?_)
    refine lv_icmp_ge (tgt := 79) C.1 C.2.1 (kd kX0_nextSailing_0 17 rfl) (by decide) (fun q => ?_) (fun q => ?_)
    · have hf := fif_pos q hf
      refine lv_sipush (v := (-10004 : Int32)) C.1 C.2.1 (kd kX0_nextSailing_0 42 rfl) (by decide) ?_
      exact fl_iret C hP hS hf (kd kX0_nextSailing_0 43 rfl)
    have hf := fif_neg q hf
    refine lv_aload_n C.1 C.2.1 (kd kX0_nextSailing_0 18 rfl) rfl (lv_at hl 0 rfl) ?_
    refine lv_aload_n C.1 C.2.1 (kd kX0_nextSailing_0 19 rfl) rfl (lv_at hl 0 rfl) ?_
    refine fl_get (j := 0) (v := .ref (Γ.1 139)) C hP rfl (Nat.le_of_ble_eq_true rfl) rfl inX0 (Nat.le_of_ble_eq_true rfl) tw_175 rfl (kd kX0_nextSailing_0 20 rfl) ?_
    refine lv_iload C.1 C.2.1 (kd kX0_nextSailing_0 21 rfl) (lv_at hl 3 rfl) ?_
    obtain ⟨hq, hf⟩ := fb_some hf
    refine fl_iald C hP rfl hq (kd kX0_nextSailing_0 22 rfl) ?_
    obtain ⟨r2_, σ2, hσ2, hf⟩ := fcall_some hf
    refine fl_i hS (fl_runV (As := [.int (σ1 139 v4.toNatClampNeg)]) (rest := []) C hP rfl (Nat.le_of_ble_eq_true rfl) rfl (m_X0_sails C.2.2.2.2.2.2.2.2 l  hσ2) (fgV tw_579 tw_580 tw_581 tw_71 tw_582) hd_X0_sails ⟨rfl, rfl, Nat.le_of_ble_eq_true rfl, Nat.le_of_ble_eq_true rfl⟩ rfl hl.1 rfl (Nat.le_of_ble_eq_true rfl) (kd kX0_nextSailing_0 23 rfl)) (fun H locs hP hS => ?_)
    refine lv_if_eq (tgt := 73) C.1 C.2.1 (kd kX0_nextSailing_0 24 rfl) (by decide) (fun q => ?_) (fun q => ?_)
    · have hf := fif_pos q hf
      exact w_X0_nextSailing_b73 h1 C hK20 (v3) (v4) σ2 H locs ls hf hP hS (lv_sub hl [0, 1, 2, 3] rfl)
    have hf := fif_neg q hf
    refine lv_aload_n C.1 C.2.1 (kd kX0_nextSailing_0 25 rfl) rfl (lv_at hl 1 rfl) ?_
    refine fl_get (j := 2) (v := .ref (Γ.1 (b1 + 5))) C hP (fe_P h1) (fD_lt h1) rfl inX3 (Nat.le_of_ble_eq_true rfl) tw_118 rfl (kd kX0_nextSailing_0 26 rfl) ?_
    refine lv_aload_n C.1 C.2.1 (kd kX0_nextSailing_0 27 rfl) rfl (lv_at hl 0 rfl) ?_
    refine fl_get (j := 0) (v := .ref (Γ.1 139)) C hP rfl (Nat.le_of_ble_eq_true rfl) rfl inX0 (Nat.le_of_ble_eq_true rfl) tw_175 rfl (kd kX0_nextSailing_0 28 rfl) ?_
    refine lv_iload C.1 C.2.1 (kd kX0_nextSailing_0 29 rfl) (lv_at hl 3 rfl) ?_
    obtain ⟨hq, hf⟩ := fb_some hf
    refine fl_iald C hP rfl hq (kd kX0_nextSailing_0 30 rfl) ?_
    refine lv_iconst (v := (3 : Int32)) C.1 C.2.1 (kd kX0_nextSailing_0 31 rfl) (by decide) ?_
    obtain ⟨r3_, σ3, hσ3, hf⟩ := fcall_some hf
    refine fl_i hS (fl_runV (As := [.int (σ2 139 v4.toNatClampNeg), .int (3 : Int32)]) (rest := []) C hP (fe_T (fD_prt h1).2.2.1) (fD_lt (fD_prt h1).2.2.1) rfl (m_X5_at C.2.2.2.2.2.2.2.2 l (fD_prt h1).2.2.1 hσ3) (fgV tw_543 tw_418 tw_419 tw_69 tw_420) hd_X5_at ⟨rfl, rfl, Nat.le_of_ble_eq_true rfl, Nat.le_of_ble_eq_true rfl⟩ rfl hl.1 rfl (Nat.le_of_ble_eq_true rfl) (kd kX0_nextSailing_0 32 rfl)) (fun H locs hP hS => ?_)
    refine lv_iload_n C.1 C.2.1 (kd kX0_nextSailing_0 33 rfl) rfl (lv_at hl 2 rfl) ?_
    refine lv_icmp_le (tgt := 73) C.1 C.2.1 (kd kX0_nextSailing_0 34 rfl) (by decide) (fun q => ?_) (fun q => ?_)
    · have hf := fif_pos q hf
      exact w_X0_nextSailing_b73 h1 C hK20 (v3) (v4) σ3 H locs ls hf hP hS (lv_sub hl [0, 1, 2, 3] rfl)
    have hf := fif_neg q hf
    refine lv_aload_n C.1 C.2.1 (kd kX0_nextSailing_0 35 rfl) rfl (lv_at hl 0 rfl) ?_
    refine fl_get (j := 0) (v := .ref (Γ.1 139)) C hP rfl (Nat.le_of_ble_eq_true rfl) rfl inX0 (Nat.le_of_ble_eq_true rfl) tw_175 rfl (kd kX0_nextSailing_0 36 rfl) ?_
    refine lv_iload C.1 C.2.1 (kd kX0_nextSailing_0 37 rfl) (lv_at hl 3 rfl) ?_
    obtain ⟨hq, hf⟩ := fb_some hf
    refine fl_iald C hP rfl hq (kd kX0_nextSailing_0 38 rfl) ?_
    exact fl_iret C hP hS hf (kd kX0_nextSailing_0 39 rfl)
def f_X0_nextSailing (b1 : Nat) (x2 : Int32) (σ : fS) : Option (Int32 × fS) := fb x2 12 (fcall (f_X5_at (b1 + 5) 12 4 (σ 139 x2.toNatClampNeg) (3 : Int32) σ) (fun r1_ σ1 => f_X0_nextSailing_b20 b1 fN (r1_) ((x2 + (1 : Int32))) σ1))
set_option maxRecDepth 100000 in
set_option maxHeartbeats 4000000 in
theorem m_X0_nextSailing {Γ : fGm} (hI : fI Γ) (l : Launch) {b1 : Nat} {x2 : Int32} (h1 : fD b1 = (3, 0, 0)) {σ : fS} {r : Int32} {σ' : fS} (hf : f_X0_nextSailing b1 x2 σ = some (r, σ')) : Met l yX0_nextSailing (.code yX0_nextSailing cX0_nextSailing 5 (some .int) :: lw_g) ({ frames := 1, cells := 0, slots := 0, locals := 22 } : Room) (fPre Γ [.ref (Γ.1 138), .ref (Γ.1 b1), .int x2] σ) (fQi Γ r σ') 0 0 (fAd Γ) := by
  refine fl_enter (own := RX0) hI (by decide +kernel) rfl (Nat.le_of_ble_eq_true rfl) ?_
  intro p e s m args below meth c ls C hl hP hS
  have hl : lv_has ls 5 [(0, .ref (Γ.1 138)), (1, .ref (Γ.1 b1)), (2, .int x2)] := hl
  obtain ⟨H, hH⟩ : ∃ H, H = s.heap := ⟨_, rfl⟩
  obtain ⟨locs, hL⟩ : ∃ L : List Loc, L = [] := ⟨_, rfl⟩
  have hP : fH Γ σ H := by rw [hH]; exact hP
  have hS : va_S (fAd Γ) s.heap H locs := by rw [hH, hL]; exact hS
  suffices hw : W p l e ({ frames := 1, cells := 0, slots := 0, locals := 22 } : Room) s m args below meth c H locs 0 0 (MQ below (fQi Γ r σ') args s 0 0 (fAd Γ)) (F0 m 0 ls []) by rw [hH, hL] at hw; exact hw
  unfold f_X0_nextSailing at hf
  refine lv_aload_n C.1 C.2.1 (kd kX0_nextSailing_0 0 rfl) rfl (lv_at hl 1 rfl) ?_
  refine fl_get (j := 2) (v := .ref (Γ.1 (b1 + 5))) C hP (fe_P h1) (fD_lt h1) rfl inX3 (Nat.le_of_ble_eq_true rfl) tw_118 rfl (kd kX0_nextSailing_0 1 rfl) ?_
  refine lv_aload_n C.1 C.2.1 (kd kX0_nextSailing_0 2 rfl) rfl (lv_at hl 0 rfl) ?_
  refine fl_get (j := 0) (v := .ref (Γ.1 139)) C hP rfl (Nat.le_of_ble_eq_true rfl) rfl inX0 (Nat.le_of_ble_eq_true rfl) tw_175 rfl (kd kX0_nextSailing_0 3 rfl) ?_
  refine lv_iload_n C.1 C.2.1 (kd kX0_nextSailing_0 4 rfl) rfl (lv_at hl 2 rfl) ?_
  obtain ⟨hq, hf⟩ := fb_some hf
  refine fl_iald C hP rfl hq (kd kX0_nextSailing_0 5 rfl) ?_
  refine lv_iconst (v := (3 : Int32)) C.1 C.2.1 (kd kX0_nextSailing_0 6 rfl) (by decide) ?_
  obtain ⟨r1_, σ1, hσ1, hf⟩ := fcall_some hf
  refine fl_i hS (fl_runV (As := [.int (σ 139 x2.toNatClampNeg), .int (3 : Int32)]) (rest := []) C hP (fe_T (fD_prt h1).2.2.1) (fD_lt (fD_prt h1).2.2.1) rfl (m_X5_at C.2.2.2.2.2.2.2.2 l (fD_prt h1).2.2.1 hσ1) (fgV tw_543 tw_418 tw_419 tw_69 tw_420) hd_X5_at ⟨rfl, rfl, Nat.le_of_ble_eq_true rfl, Nat.le_of_ble_eq_true rfl⟩ rfl hl.1 rfl (Nat.le_of_ble_eq_true rfl) (kd kX0_nextSailing_0 7 rfl)) (fun H locs hP hS => ?_)
  refine lv_istore_n (lv' := [(3, .int r1_), (0, .ref (Γ.1 138)), (1, .ref (Γ.1 b1)), (2, .int x2)]) C.1 C.2.1 (kd kX0_nextSailing_0 8 rfl) rfl hl (Nat.le_of_ble_eq_true rfl) rfl (fun ls hl => ?_)
  refine lv_iload_n C.1 C.2.1 (kd kX0_nextSailing_0 9 rfl) rfl (lv_at hl 3 rfl) ?_
  refine lv_iconst (v := (1 : Int32)) C.1 C.2.1 (kd kX0_nextSailing_0 10 rfl) (by decide) ?_
  refine lv_iadd C.1 C.2.1 (kd kX0_nextSailing_0 11 rfl) ?_
  refine lv_istore (lv' := [(4, .int (x2 + (1 : Int32))), (3, .int r1_), (0, .ref (Γ.1 138)), (1, .ref (Γ.1 b1)), (2, .int x2)]) C.1 C.2.1 (kd kX0_nextSailing_0 12 rfl) hl (Nat.le_of_ble_eq_true rfl) rfl (fun ls hl => ?_)
  exact w_X0_nextSailing_b20 h1 C fN (r1_) ((x2 + (1 : Int32))) σ1 H locs ls hf hP hS (lv_sub hl [2, 3, 1, 0] rfl)
def f_X0_countSailing_b44 (b1 : Nat) (K6 : Int32 → Int32 → Int32 → Int32 → fS → Option (Int32 × fS)) (v2 : Int32) (v3 : Int32) (v4 : Int32) (v5 : Int32) (σ : fS) : Option (Int32 × fS) := K6 (v2) (v3) (v4) ((v5 + (1 : Int32))) σ
set_option maxRecDepth 100000 in
set_option maxHeartbeats 4000000 in
theorem w_X0_countSailing_b44 {b1 : Nat} {r : Int32} {σ' : fS} {K6 : Int32 → Int32 → Int32 → Int32 → fS → Option (Int32 × fS)} (h1 : fD b1 = (3, 0, 0))  (C : fC Γ p s m args meth c cX0_countSailing (some .int) RX0 6) (hK6 : ∀ (v2 : Int32) (v3 : Int32) (v4 : Int32) (v5 : Int32) (σ : fS) (H : Heap) (locs : List Loc) (ls : Array Slot), K6 v2 v3 v4 v5 σ = some (r, σ') → fH Γ σ H → va_S (fAd Γ) s.heap H locs → lv_has ls 6 [(0, .ref (Γ.1 138)), (1, .ref (Γ.1 b1)), (2, .int v2), (3, .int v3), (4, .int v4), (5, .int v5)] → W p l e ({ frames := 1, cells := 0, slots := 0, locals := 22 } : Room) s m args below meth c H locs 0 0 (MQ below (fQi Γ r σ') args s 0 0 (fAd Γ)) (F0 m 6 ls [])) : ∀ (v2 : Int32) (v3 : Int32) (v4 : Int32) (v5 : Int32) (σ : fS) (H : Heap) (locs : List Loc) (ls : Array Slot), f_X0_countSailing_b44 b1 K6 v2 v3 v4 v5 σ = some (r, σ') → fH Γ σ H → va_S (fAd Γ) s.heap H locs → lv_has ls 6 [(0, .ref (Γ.1 138)), (1, .ref (Γ.1 b1)), (2, .int v2), (3, .int v3), (4, .int v4), (5, .int v5)] → W p l e ({ frames := 1, cells := 0, slots := 0, locals := 22 } : Room) s m args below meth c H locs 0 0 (MQ below (fQi Γ r σ') args s 0 0 (fAd Γ)) (F0 m 44 ls []) := by
  intro v2 v3 v4 v5 σ H locs ls hf hP hS hl
  unfold f_X0_countSailing_b44 at hf
  refine lv_iinc (v := (v5 + (1 : Int32))) (lv' := [(5, .int (v5 + (1 : Int32))), (0, .ref (Γ.1 138)), (1, .ref (Γ.1 b1)), (2, .int v2), (3, .int v3), (4, .int v4)]) C.1 C.2.1 (kd kX0_countSailing_0 21 rfl) hl (k := 5) rfl rfl (Nat.le_of_ble_eq_true rfl) rfl (fun ls hl => ?_)
  refine lv_goto (tgt := 6) C.1 C.2.1 (kd kX0_countSailing_0 22 rfl) (by decide) ?_
  exact hK6 (v2) (v3) (v4) ((v5 + (1 : Int32))) σ H locs ls hf hP hS (lv_sub hl [1, 2, 3, 4, 5, 0] rfl)
def f_X0_countSailing_b6 (b1 : Nat) : Nat → Int32 → Int32 → Int32 → Int32 → fS → Option (Int32 × fS)
  | 0, _, _, _, _, _ => none
  | n_ + 1, v2, v3, v4, v5, σ => fcall (f_X5_size (b1 + 5) 12 4 σ) (fun r1_ σ1 => (if r1_ ≤ v5 then some (v4, σ1) else fcall (f_X0_sails v5 σ1) (fun r2_ σ2 => (if r2_ = 0 then f_X0_countSailing_b44 b1 (fun v2 v3 v4 v5 σ => f_X0_countSailing_b6 b1 n_ v2 v3 v4 v5 σ) (v2) (v3) (v4) (v5) σ2 else fcall (f_X5_at (b1 + 5) 12 4 v5 v2 σ2) (fun r3_ σ3 => (if r3_ = v3 then f_X0_countSailing_b44 b1 (fun v2 v3 v4 v5 σ => f_X0_countSailing_b6 b1 n_ v2 v3 v4 v5 σ) (v2) (v3) ((v4 + (1 : Int32))) (v5) σ3 else f_X0_countSailing_b44 b1 (fun v2 v3 v4 v5 σ => f_X0_countSailing_b6 b1 n_ v2 v3 v4 v5 σ) (v2) (v3) (v4) (v5) σ3))))))
set_option maxRecDepth 100000 in
set_option maxHeartbeats 4000000 in
theorem w_X0_countSailing_b6 {b1 : Nat} {r : Int32} {σ' : fS} (h1 : fD b1 = (3, 0, 0))  (C : fC Γ p s m args meth c cX0_countSailing (some .int) RX0 6) : ∀ (n_ : Nat) (v2 : Int32) (v3 : Int32) (v4 : Int32) (v5 : Int32) (σ : fS) (H : Heap) (locs : List Loc) (ls : Array Slot), f_X0_countSailing_b6 b1 n_ v2 v3 v4 v5 σ = some (r, σ') → fH Γ σ H → va_S (fAd Γ) s.heap H locs → lv_has ls 6 [(0, .ref (Γ.1 138)), (1, .ref (Γ.1 b1)), (2, .int v2), (3, .int v3), (4, .int v4), (5, .int v5)] → W p l e ({ frames := 1, cells := 0, slots := 0, locals := 22 } : Room) s m args below meth c H locs 0 0 (MQ below (fQi Γ r σ') args s 0 0 (fAd Γ)) (F0 m 6 ls []) := by
  intro n_
  induction n_ with
  | zero =>
    intro v2 v3 v4 v5 σ H locs ls hf
    cases hf
  | succ n_ ih =>
    intro v2 v3 v4 v5 σ H locs ls hf hP hS hl
    have hf : fcall (f_X5_size (b1 + 5) 12 4 σ) (fun r1_ σ1 => (if r1_ ≤ v5 then some (v4, σ1) else fcall (f_X0_sails v5 σ1) (fun r2_ σ2 => (if r2_ = 0 then f_X0_countSailing_b44 b1 (fun v2 v3 v4 v5 σ => f_X0_countSailing_b6 b1 n_ v2 v3 v4 v5 σ) (v2) (v3) (v4) (v5) σ2 else fcall (f_X5_at (b1 + 5) 12 4 v5 v2 σ2) (fun r3_ σ3 => (if r3_ = v3 then f_X0_countSailing_b44 b1 (fun v2 v3 v4 v5 σ => f_X0_countSailing_b6 b1 n_ v2 v3 v4 v5 σ) (v2) (v3) ((v4 + (1 : Int32))) (v5) σ3 else f_X0_countSailing_b44 b1 (fun v2 v3 v4 v5 σ => f_X0_countSailing_b6 b1 n_ v2 v3 v4 v5 σ) (v2) (v3) (v4) (v5) σ3)))))) = some (r, σ') := hf
    have hK6 := ih
    refine lv_iload C.1 C.2.1 (kd kX0_countSailing_0 4 rfl) (lv_at hl 5 rfl) ?_
    refine lv_aload_n C.1 C.2.1 (kd kX0_countSailing_0 5 rfl) rfl (lv_at hl 1 rfl) ?_
    refine fl_get (j := 2) (v := .ref (Γ.1 (b1 + 5))) C hP (fe_P h1) (fD_lt h1) rfl inX3 (Nat.le_of_ble_eq_true rfl) tw_118 rfl (kd kX0_countSailing_0 6 rfl) ?_
    obtain ⟨r1_, σ1, hσ1, hf⟩ := fcall_some hf
    refine fl_i hS (fl_runV (As := []) (rest := [.int v5]) C hP (fe_T (fD_prt h1).2.2.1) (fD_lt (fD_prt h1).2.2.1) rfl (m_X5_size C.2.2.2.2.2.2.2.2 l (fD_prt h1).2.2.1 hσ1) (fgV tw_539 tw_414 tw_415 tw_69 tw_416) hd_X5_size ⟨rfl, rfl, Nat.le_of_ble_eq_true rfl, Nat.le_of_ble_eq_true rfl⟩ rfl hl.1 rfl (Nat.le_of_ble_eq_true rfl) (kd kX0_countSailing_0 7 rfl)) (fun H locs hP hS => ?_)
    refine lv_icmp_ge (tgt := 50) C.1 C.2.1 (kd kX0_countSailing_0 8 rfl) (by decide) (fun q => ?_) (fun q => ?_)
    · have hf := fif_pos q hf
      refine lv_iload C.1 C.2.1 (kd kX0_countSailing_0 23 rfl) (lv_at hl 4 rfl) ?_
      exact fl_iret C hP hS hf (kd kX0_countSailing_0 24 rfl)
    have hf := fif_neg q hf
    refine lv_aload_n C.1 C.2.1 (kd kX0_countSailing_0 9 rfl) rfl (lv_at hl 0 rfl) ?_
    refine lv_iload C.1 C.2.1 (kd kX0_countSailing_0 10 rfl) (lv_at hl 5 rfl) ?_
    obtain ⟨r2_, σ2, hσ2, hf⟩ := fcall_some hf
    refine fl_i hS (fl_runV (As := [.int v5]) (rest := []) C hP rfl (Nat.le_of_ble_eq_true rfl) rfl (m_X0_sails C.2.2.2.2.2.2.2.2 l  hσ2) (fgV tw_579 tw_580 tw_581 tw_71 tw_582) hd_X0_sails ⟨rfl, rfl, Nat.le_of_ble_eq_true rfl, Nat.le_of_ble_eq_true rfl⟩ rfl hl.1 rfl (Nat.le_of_ble_eq_true rfl) (kd kX0_countSailing_0 11 rfl)) (fun H locs hP hS => ?_)
    refine lv_if_eq (tgt := 44) C.1 C.2.1 (kd kX0_countSailing_0 12 rfl) (by decide) (fun q => ?_) (fun q => ?_)
    · have hf := fif_pos q hf
      exact w_X0_countSailing_b44 h1 C hK6 (v2) (v3) (v4) (v5) σ2 H locs ls hf hP hS (lv_sub hl [0, 1, 2, 3, 4, 5] rfl)
    have hf := fif_neg q hf
    refine lv_aload_n C.1 C.2.1 (kd kX0_countSailing_0 13 rfl) rfl (lv_at hl 1 rfl) ?_
    refine fl_get (j := 2) (v := .ref (Γ.1 (b1 + 5))) C hP (fe_P h1) (fD_lt h1) rfl inX3 (Nat.le_of_ble_eq_true rfl) tw_118 rfl (kd kX0_countSailing_0 14 rfl) ?_
    refine lv_iload C.1 C.2.1 (kd kX0_countSailing_0 15 rfl) (lv_at hl 5 rfl) ?_
    refine lv_iload_n C.1 C.2.1 (kd kX0_countSailing_0 16 rfl) rfl (lv_at hl 2 rfl) ?_
    obtain ⟨r3_, σ3, hσ3, hf⟩ := fcall_some hf
    refine fl_i hS (fl_runV (As := [.int v5, .int v2]) (rest := []) C hP (fe_T (fD_prt h1).2.2.1) (fD_lt (fD_prt h1).2.2.1) rfl (m_X5_at C.2.2.2.2.2.2.2.2 l (fD_prt h1).2.2.1 hσ3) (fgV tw_543 tw_418 tw_419 tw_69 tw_420) hd_X5_at ⟨rfl, rfl, Nat.le_of_ble_eq_true rfl, Nat.le_of_ble_eq_true rfl⟩ rfl hl.1 rfl (Nat.le_of_ble_eq_true rfl) (kd kX0_countSailing_0 17 rfl)) (fun H locs hP hS => ?_)
    refine lv_iload_n C.1 C.2.1 (kd kX0_countSailing_0 18 rfl) rfl (lv_at hl 3 rfl) ?_
    refine lv_icmp_ne (tgt := 44) C.1 C.2.1 (kd kX0_countSailing_0 19 rfl) (by decide) (fun q => ?_) (fun q => ?_)
    · have hf := fif_neg q hf
      exact w_X0_countSailing_b44 h1 C hK6 (v2) (v3) (v4) (v5) σ3 H locs ls hf hP hS (lv_sub hl [0, 1, 2, 3, 4, 5] rfl)
    have hf := fif_pos q hf
    refine lv_iinc (v := (v4 + (1 : Int32))) (lv' := [(4, .int (v4 + (1 : Int32))), (0, .ref (Γ.1 138)), (1, .ref (Γ.1 b1)), (2, .int v2), (3, .int v3), (5, .int v5)]) C.1 C.2.1 (kd kX0_countSailing_0 20 rfl) hl (k := 4) rfl rfl (Nat.le_of_ble_eq_true rfl) rfl (fun ls hl => ?_)
    exact w_X0_countSailing_b44 h1 C hK6 (v2) (v3) ((v4 + (1 : Int32))) (v5) σ3 H locs ls hf hP hS (lv_sub hl [1, 2, 3, 4, 0, 5] rfl)
def f_X0_countSailing (b1 : Nat) (x2 : Int32) (x3 : Int32) (σ : fS) : Option (Int32 × fS) := f_X0_countSailing_b6 b1 fN (x2) (x3) ((0 : Int32)) ((0 : Int32)) σ
set_option maxRecDepth 100000 in
set_option maxHeartbeats 4000000 in
theorem m_X0_countSailing {Γ : fGm} (hI : fI Γ) (l : Launch) {b1 : Nat} {x2 : Int32} {x3 : Int32} (h1 : fD b1 = (3, 0, 0)) {σ : fS} {r : Int32} {σ' : fS} (hf : f_X0_countSailing b1 x2 x3 σ = some (r, σ')) : Met l yX0_countSailing (.code yX0_countSailing cX0_countSailing 6 (some .int) :: lw_g) ({ frames := 1, cells := 0, slots := 0, locals := 22 } : Room) (fPre Γ [.ref (Γ.1 138), .ref (Γ.1 b1), .int x2, .int x3] σ) (fQi Γ r σ') 0 0 (fAd Γ) := by
  refine fl_enter (own := RX0) hI (by decide +kernel) rfl (Nat.le_of_ble_eq_true rfl) ?_
  intro p e s m args below meth c ls C hl hP hS
  have hl : lv_has ls 6 [(0, .ref (Γ.1 138)), (1, .ref (Γ.1 b1)), (2, .int x2), (3, .int x3)] := hl
  obtain ⟨H, hH⟩ : ∃ H, H = s.heap := ⟨_, rfl⟩
  obtain ⟨locs, hL⟩ : ∃ L : List Loc, L = [] := ⟨_, rfl⟩
  have hP : fH Γ σ H := by rw [hH]; exact hP
  have hS : va_S (fAd Γ) s.heap H locs := by rw [hH, hL]; exact hS
  suffices hw : W p l e ({ frames := 1, cells := 0, slots := 0, locals := 22 } : Room) s m args below meth c H locs 0 0 (MQ below (fQi Γ r σ') args s 0 0 (fAd Γ)) (F0 m 0 ls []) by rw [hH, hL] at hw; exact hw
  unfold f_X0_countSailing at hf
  refine lv_iconst (v := (0 : Int32)) C.1 C.2.1 (kd kX0_countSailing_0 0 rfl) (by decide) ?_
  refine lv_istore (lv' := [(4, .int (0 : Int32)), (0, .ref (Γ.1 138)), (1, .ref (Γ.1 b1)), (2, .int x2), (3, .int x3)]) C.1 C.2.1 (kd kX0_countSailing_0 1 rfl) hl (Nat.le_of_ble_eq_true rfl) rfl (fun ls hl => ?_)
  refine lv_iconst (v := (0 : Int32)) C.1 C.2.1 (kd kX0_countSailing_0 2 rfl) (by decide) ?_
  refine lv_istore (lv' := [(5, .int (0 : Int32)), (4, .int (0 : Int32)), (0, .ref (Γ.1 138)), (1, .ref (Γ.1 b1)), (2, .int x2), (3, .int x3)]) C.1 C.2.1 (kd kX0_countSailing_0 3 rfl) hl (Nat.le_of_ble_eq_true rfl) rfl (fun ls hl => ?_)
  exact w_X0_countSailing_b6 h1 C fN (x2) (x3) ((0 : Int32)) ((0 : Int32)) σ H locs ls hf hP hS (lv_sub hl [2, 3, 4, 5, 1, 0] rfl)
def f_X0_countAllSailing_b26 (b1 : Nat) (K4 : Int32 → Int32 → fS → Option (Int32 × fS)) (v2 : Int32) (v3 : Int32) (σ : fS) : Option (Int32 × fS) := K4 (v2) ((v3 + (1 : Int32))) σ
set_option maxRecDepth 100000 in
set_option maxHeartbeats 4000000 in
theorem w_X0_countAllSailing_b26 {b1 : Nat} {r : Int32} {σ' : fS} {K4 : Int32 → Int32 → fS → Option (Int32 × fS)} (h1 : fD b1 = (3, 0, 0))  (C : fC Γ p s m args meth c cX0_countAllSailing (some .int) RX0 4) (hK4 : ∀ (v2 : Int32) (v3 : Int32) (σ : fS) (H : Heap) (locs : List Loc) (ls : Array Slot), K4 v2 v3 σ = some (r, σ') → fH Γ σ H → va_S (fAd Γ) s.heap H locs → lv_has ls 4 [(0, .ref (Γ.1 138)), (1, .ref (Γ.1 b1)), (2, .int v2), (3, .int v3)] → W p l e ({ frames := 1, cells := 0, slots := 0, locals := 21 } : Room) s m args below meth c H locs 0 0 (MQ below (fQi Γ r σ') args s 0 0 (fAd Γ)) (F0 m 4 ls [])) : ∀ (v2 : Int32) (v3 : Int32) (σ : fS) (H : Heap) (locs : List Loc) (ls : Array Slot), f_X0_countAllSailing_b26 b1 K4 v2 v3 σ = some (r, σ') → fH Γ σ H → va_S (fAd Γ) s.heap H locs → lv_has ls 4 [(0, .ref (Γ.1 138)), (1, .ref (Γ.1 b1)), (2, .int v2), (3, .int v3)] → W p l e ({ frames := 1, cells := 0, slots := 0, locals := 21 } : Room) s m args below meth c H locs 0 0 (MQ below (fQi Γ r σ') args s 0 0 (fAd Γ)) (F0 m 26 ls []) := by
  intro v2 v3 σ H locs ls hf hP hS hl
  unfold f_X0_countAllSailing_b26 at hf
  refine lv_iinc (v := (v3 + (1 : Int32))) (lv' := [(3, .int (v3 + (1 : Int32))), (0, .ref (Γ.1 138)), (1, .ref (Γ.1 b1)), (2, .int v2)]) C.1 C.2.1 (kd kX0_countAllSailing_0 14 rfl) hl (k := 3) rfl rfl (Nat.le_of_ble_eq_true rfl) rfl (fun ls hl => ?_)
  refine lv_goto (tgt := 4) C.1 C.2.1 (kd kX0_countAllSailing_0 15 rfl) (by decide) ?_
  exact hK4 (v2) ((v3 + (1 : Int32))) σ H locs ls hf hP hS (lv_sub hl [1, 2, 3, 0] rfl)
def f_X0_countAllSailing_b4 (b1 : Nat) : Nat → Int32 → Int32 → fS → Option (Int32 × fS)
  | 0, _, _, _ => none
  | n_ + 1, v2, v3, σ => fcall (f_X5_size (b1 + 5) 12 4 σ) (fun r1_ σ1 => (if r1_ ≤ v3 then some (v2, σ1) else fcall (f_X0_sails v3 σ1) (fun r2_ σ2 => (if r2_ = 0 then f_X0_countAllSailing_b26 b1 (fun v2 v3 σ => f_X0_countAllSailing_b4 b1 n_ v2 v3 σ) (v2) (v3) σ2 else f_X0_countAllSailing_b26 b1 (fun v2 v3 σ => f_X0_countAllSailing_b4 b1 n_ v2 v3 σ) ((v2 + (1 : Int32))) (v3) σ2))))
set_option maxRecDepth 100000 in
set_option maxHeartbeats 4000000 in
theorem w_X0_countAllSailing_b4 {b1 : Nat} {r : Int32} {σ' : fS} (h1 : fD b1 = (3, 0, 0))  (C : fC Γ p s m args meth c cX0_countAllSailing (some .int) RX0 4) : ∀ (n_ : Nat) (v2 : Int32) (v3 : Int32) (σ : fS) (H : Heap) (locs : List Loc) (ls : Array Slot), f_X0_countAllSailing_b4 b1 n_ v2 v3 σ = some (r, σ') → fH Γ σ H → va_S (fAd Γ) s.heap H locs → lv_has ls 4 [(0, .ref (Γ.1 138)), (1, .ref (Γ.1 b1)), (2, .int v2), (3, .int v3)] → W p l e ({ frames := 1, cells := 0, slots := 0, locals := 21 } : Room) s m args below meth c H locs 0 0 (MQ below (fQi Γ r σ') args s 0 0 (fAd Γ)) (F0 m 4 ls []) := by
  intro n_
  induction n_ with
  | zero =>
    intro v2 v3 σ H locs ls hf
    cases hf
  | succ n_ ih =>
    intro v2 v3 σ H locs ls hf hP hS hl
    have hf : fcall (f_X5_size (b1 + 5) 12 4 σ) (fun r1_ σ1 => (if r1_ ≤ v3 then some (v2, σ1) else fcall (f_X0_sails v3 σ1) (fun r2_ σ2 => (if r2_ = 0 then f_X0_countAllSailing_b26 b1 (fun v2 v3 σ => f_X0_countAllSailing_b4 b1 n_ v2 v3 σ) (v2) (v3) σ2 else f_X0_countAllSailing_b26 b1 (fun v2 v3 σ => f_X0_countAllSailing_b4 b1 n_ v2 v3 σ) ((v2 + (1 : Int32))) (v3) σ2)))) = some (r, σ') := hf
    have hK4 := ih
    refine lv_iload_n C.1 C.2.1 (kd kX0_countAllSailing_0 4 rfl) rfl (lv_at hl 3 rfl) ?_
    refine lv_aload_n C.1 C.2.1 (kd kX0_countAllSailing_0 5 rfl) rfl (lv_at hl 1 rfl) ?_
    refine fl_get (j := 2) (v := .ref (Γ.1 (b1 + 5))) C hP (fe_P h1) (fD_lt h1) rfl inX3 (Nat.le_of_ble_eq_true rfl) tw_118 rfl (kd kX0_countAllSailing_0 6 rfl) ?_
    obtain ⟨r1_, σ1, hσ1, hf⟩ := fcall_some hf
    refine fl_i hS (fl_runV (As := []) (rest := [.int v3]) C hP (fe_T (fD_prt h1).2.2.1) (fD_lt (fD_prt h1).2.2.1) rfl (m_X5_size C.2.2.2.2.2.2.2.2 l (fD_prt h1).2.2.1 hσ1) (fgV tw_539 tw_414 tw_415 tw_69 tw_416) hd_X5_size ⟨rfl, rfl, Nat.le_of_ble_eq_true rfl, Nat.le_of_ble_eq_true rfl⟩ rfl hl.1 rfl (Nat.le_of_ble_eq_true rfl) (kd kX0_countAllSailing_0 7 rfl)) (fun H locs hP hS => ?_)
    refine lv_icmp_ge (tgt := 32) C.1 C.2.1 (kd kX0_countAllSailing_0 8 rfl) (by decide) (fun q => ?_) (fun q => ?_)
    · have hf := fif_pos q hf
      refine lv_iload_n C.1 C.2.1 (kd kX0_countAllSailing_0 16 rfl) rfl (lv_at hl 2 rfl) ?_
      exact fl_iret C hP hS hf (kd kX0_countAllSailing_0 17 rfl)
    have hf := fif_neg q hf
    refine lv_aload_n C.1 C.2.1 (kd kX0_countAllSailing_0 9 rfl) rfl (lv_at hl 0 rfl) ?_
    refine lv_iload_n C.1 C.2.1 (kd kX0_countAllSailing_0 10 rfl) rfl (lv_at hl 3 rfl) ?_
    obtain ⟨r2_, σ2, hσ2, hf⟩ := fcall_some hf
    refine fl_i hS (fl_runV (As := [.int v3]) (rest := []) C hP rfl (Nat.le_of_ble_eq_true rfl) rfl (m_X0_sails C.2.2.2.2.2.2.2.2 l  hσ2) (fgV tw_579 tw_580 tw_581 tw_71 tw_582) hd_X0_sails ⟨rfl, rfl, Nat.le_of_ble_eq_true rfl, Nat.le_of_ble_eq_true rfl⟩ rfl hl.1 rfl (Nat.le_of_ble_eq_true rfl) (kd kX0_countAllSailing_0 11 rfl)) (fun H locs hP hS => ?_)
    refine lv_if_eq (tgt := 26) C.1 C.2.1 (kd kX0_countAllSailing_0 12 rfl) (by decide) (fun q => ?_) (fun q => ?_)
    · have hf := fif_pos q hf
      exact w_X0_countAllSailing_b26 h1 C hK4 (v2) (v3) σ2 H locs ls hf hP hS (lv_sub hl [0, 1, 2, 3] rfl)
    have hf := fif_neg q hf
    refine lv_iinc (v := (v2 + (1 : Int32))) (lv' := [(2, .int (v2 + (1 : Int32))), (0, .ref (Γ.1 138)), (1, .ref (Γ.1 b1)), (3, .int v3)]) C.1 C.2.1 (kd kX0_countAllSailing_0 13 rfl) hl (k := 2) rfl rfl (Nat.le_of_ble_eq_true rfl) rfl (fun ls hl => ?_)
    exact w_X0_countAllSailing_b26 h1 C hK4 ((v2 + (1 : Int32))) (v3) σ2 H locs ls hf hP hS (lv_sub hl [1, 2, 0, 3] rfl)
def f_X0_countAllSailing (b1 : Nat) (σ : fS) : Option (Int32 × fS) := f_X0_countAllSailing_b4 b1 fN ((0 : Int32)) ((0 : Int32)) σ
set_option maxRecDepth 100000 in
set_option maxHeartbeats 4000000 in
theorem m_X0_countAllSailing {Γ : fGm} (hI : fI Γ) (l : Launch) {b1 : Nat} (h1 : fD b1 = (3, 0, 0)) {σ : fS} {r : Int32} {σ' : fS} (hf : f_X0_countAllSailing b1 σ = some (r, σ')) : Met l yX0_countAllSailing (.code yX0_countAllSailing cX0_countAllSailing 4 (some .int) :: lw_g) ({ frames := 1, cells := 0, slots := 0, locals := 21 } : Room) (fPre Γ [.ref (Γ.1 138), .ref (Γ.1 b1)] σ) (fQi Γ r σ') 0 0 (fAd Γ) := by
  refine fl_enter (own := RX0) hI (by decide +kernel) rfl (Nat.le_of_ble_eq_true rfl) ?_
  intro p e s m args below meth c ls C hl hP hS
  have hl : lv_has ls 4 [(0, .ref (Γ.1 138)), (1, .ref (Γ.1 b1))] := hl
  obtain ⟨H, hH⟩ : ∃ H, H = s.heap := ⟨_, rfl⟩
  obtain ⟨locs, hL⟩ : ∃ L : List Loc, L = [] := ⟨_, rfl⟩
  have hP : fH Γ σ H := by rw [hH]; exact hP
  have hS : va_S (fAd Γ) s.heap H locs := by rw [hH, hL]; exact hS
  suffices hw : W p l e ({ frames := 1, cells := 0, slots := 0, locals := 21 } : Room) s m args below meth c H locs 0 0 (MQ below (fQi Γ r σ') args s 0 0 (fAd Γ)) (F0 m 0 ls []) by rw [hH, hL] at hw; exact hw
  unfold f_X0_countAllSailing at hf
  refine lv_iconst (v := (0 : Int32)) C.1 C.2.1 (kd kX0_countAllSailing_0 0 rfl) (by decide) ?_
  refine lv_istore_n (lv' := [(2, .int (0 : Int32)), (0, .ref (Γ.1 138)), (1, .ref (Γ.1 b1))]) C.1 C.2.1 (kd kX0_countAllSailing_0 1 rfl) rfl hl (Nat.le_of_ble_eq_true rfl) rfl (fun ls hl => ?_)
  refine lv_iconst (v := (0 : Int32)) C.1 C.2.1 (kd kX0_countAllSailing_0 2 rfl) (by decide) ?_
  refine lv_istore_n (lv' := [(3, .int (0 : Int32)), (2, .int (0 : Int32)), (0, .ref (Γ.1 138)), (1, .ref (Γ.1 b1))]) C.1 C.2.1 (kd kX0_countAllSailing_0 3 rfl) rfl hl (Nat.le_of_ble_eq_true rfl) rfl (fun ls hl => ?_)
  exact w_X0_countAllSailing_b4 h1 C fN ((0 : Int32)) ((0 : Int32)) σ H locs ls hf hP hS (lv_sub hl [2, 3, 1, 0] rfl)
def f_X0_sumPassengers_b50 (b1 : Nat) (K5 : Int32 → Int32 → Int32 → fS → Option (Int32 × fS)) (v2 : Int32) (v3 : Int32) (v4 : Int32) (σ : fS) : Option (Int32 × fS) := K5 (v2) (v3) ((v4 + (1 : Int32))) σ
set_option maxRecDepth 100000 in
set_option maxHeartbeats 4000000 in
theorem w_X0_sumPassengers_b50 {b1 : Nat} {r : Int32} {σ' : fS} {K5 : Int32 → Int32 → Int32 → fS → Option (Int32 × fS)} (h1 : fD b1 = (3, 0, 0))  (C : fC Γ p s m args meth c cX0_sumPassengers (some .int) RX0 5) (hK5 : ∀ (v2 : Int32) (v3 : Int32) (v4 : Int32) (σ : fS) (H : Heap) (locs : List Loc) (ls : Array Slot), K5 v2 v3 v4 σ = some (r, σ') → fH Γ σ H → va_S (fAd Γ) s.heap H locs → lv_has ls 5 [(0, .ref (Γ.1 138)), (1, .ref (Γ.1 b1)), (2, .int v2), (3, .int v3), (4, .int v4)] → W p l e ({ frames := 1, cells := 0, slots := 0, locals := 22 } : Room) s m args below meth c H locs 0 0 (MQ below (fQi Γ r σ') args s 0 0 (fAd Γ)) (F0 m 5 ls [])) : ∀ (v2 : Int32) (v3 : Int32) (v4 : Int32) (σ : fS) (H : Heap) (locs : List Loc) (ls : Array Slot), f_X0_sumPassengers_b50 b1 K5 v2 v3 v4 σ = some (r, σ') → fH Γ σ H → va_S (fAd Γ) s.heap H locs → lv_has ls 5 [(0, .ref (Γ.1 138)), (1, .ref (Γ.1 b1)), (2, .int v2), (3, .int v3), (4, .int v4)] → W p l e ({ frames := 1, cells := 0, slots := 0, locals := 22 } : Room) s m args below meth c H locs 0 0 (MQ below (fQi Γ r σ') args s 0 0 (fAd Γ)) (F0 m 50 ls []) := by
  intro v2 v3 v4 σ H locs ls hf hP hS hl
  unfold f_X0_sumPassengers_b50 at hf
  refine lv_iinc (v := (v4 + (1 : Int32))) (lv' := [(4, .int (v4 + (1 : Int32))), (0, .ref (Γ.1 138)), (1, .ref (Γ.1 b1)), (2, .int v2), (3, .int v3)]) C.1 C.2.1 (kd kX0_sumPassengers_0 28 rfl) hl (k := 4) rfl rfl (Nat.le_of_ble_eq_true rfl) rfl (fun ls hl => ?_)
  refine lv_goto (tgt := 5) C.1 C.2.1 (kd kX0_sumPassengers_0 29 rfl) (by decide) ?_
  exact hK5 (v2) (v3) ((v4 + (1 : Int32))) σ H locs ls hf hP hS (lv_sub hl [1, 2, 3, 4, 0] rfl)
def f_X0_sumPassengers_b33 (b1 : Nat) (K5 : Int32 → Int32 → Int32 → fS → Option (Int32 × fS)) (v2 : Int32) (v3 : Int32) (v4 : Int32) (s0 : Int32) (σ : fS) : Option (Int32 × fS) := (if s0 = v2 then fcall (f_X5_at (b1 + 9) 8 4 v4 (3 : Int32) σ) (fun r1_ σ1 => f_X0_sumPassengers_b50 b1 K5 (v2) ((v3 + r1_)) (v4) σ1) else f_X0_sumPassengers_b50 b1 K5 (v2) (v3) (v4) σ)
set_option maxRecDepth 100000 in
set_option maxHeartbeats 4000000 in
theorem w_X0_sumPassengers_b33 {b1 : Nat} {r : Int32} {σ' : fS} {K5 : Int32 → Int32 → Int32 → fS → Option (Int32 × fS)} (h1 : fD b1 = (3, 0, 0))  (C : fC Γ p s m args meth c cX0_sumPassengers (some .int) RX0 5) (hK5 : ∀ (v2 : Int32) (v3 : Int32) (v4 : Int32) (σ : fS) (H : Heap) (locs : List Loc) (ls : Array Slot), K5 v2 v3 v4 σ = some (r, σ') → fH Γ σ H → va_S (fAd Γ) s.heap H locs → lv_has ls 5 [(0, .ref (Γ.1 138)), (1, .ref (Γ.1 b1)), (2, .int v2), (3, .int v3), (4, .int v4)] → W p l e ({ frames := 1, cells := 0, slots := 0, locals := 22 } : Room) s m args below meth c H locs 0 0 (MQ below (fQi Γ r σ') args s 0 0 (fAd Γ)) (F0 m 5 ls [])) : ∀ (v2 : Int32) (v3 : Int32) (v4 : Int32) (s0 : Int32) (σ : fS) (H : Heap) (locs : List Loc) (ls : Array Slot), f_X0_sumPassengers_b33 b1 K5 v2 v3 v4 s0 σ = some (r, σ') → fH Γ σ H → va_S (fAd Γ) s.heap H locs → lv_has ls 5 [(0, .ref (Γ.1 138)), (1, .ref (Γ.1 b1)), (2, .int v2), (3, .int v3), (4, .int v4)] → W p l e ({ frames := 1, cells := 0, slots := 0, locals := 22 } : Room) s m args below meth c H locs 0 0 (MQ below (fQi Γ r σ') args s 0 0 (fAd Γ)) (F0 m 33 ls [.int s0]) := by
  intro v2 v3 v4 s0 σ H locs ls hf hP hS hl
  unfold f_X0_sumPassengers_b33 at hf
  refine lv_iload_n C.1 C.2.1 (kd kX0_sumPassengers_0 18 rfl) rfl (lv_at hl 2 rfl) ?_
  refine lv_icmp_ne (tgt := 50) C.1 C.2.1 (kd kX0_sumPassengers_0 19 rfl) (by decide) (fun q => ?_) (fun q => ?_)
  · have hf := fif_neg q hf
    exact w_X0_sumPassengers_b50 h1 C hK5 (v2) (v3) (v4) σ H locs ls hf hP hS (lv_sub hl [0, 1, 2, 3, 4] rfl)
  have hf := fif_pos q hf
  refine lv_iload_n C.1 C.2.1 (kd kX0_sumPassengers_0 20 rfl) rfl (lv_at hl 3 rfl) ?_
  refine lv_aload_n C.1 C.2.1 (kd kX0_sumPassengers_0 21 rfl) rfl (lv_at hl 1 rfl) ?_
  refine fl_get (j := 4) (v := .ref (Γ.1 (b1 + 9))) C hP (fe_P h1) (fD_lt h1) rfl inX3 (Nat.le_of_ble_eq_true rfl) tw_125 rfl (kd kX0_sumPassengers_0 22 rfl) ?_
  refine lv_iload C.1 C.2.1 (kd kX0_sumPassengers_0 23 rfl) (lv_at hl 4 rfl) ?_
  refine lv_iconst (v := (3 : Int32)) C.1 C.2.1 (kd kX0_sumPassengers_0 24 rfl) (by decide) ?_
  obtain ⟨r1_, σ1, hσ1, hf⟩ := fcall_some hf
  refine fl_i hS (fl_runV (As := [.int v4, .int (3 : Int32)]) (rest := [.int v3]) C hP (fe_T (fD_prt h1).2.2.2.2.1) (fD_lt (fD_prt h1).2.2.2.2.1) rfl (m_X5_at C.2.2.2.2.2.2.2.2 l (fD_prt h1).2.2.2.2.1 hσ1) (fgV tw_543 tw_418 tw_419 tw_69 tw_420) hd_X5_at ⟨rfl, rfl, Nat.le_of_ble_eq_true rfl, Nat.le_of_ble_eq_true rfl⟩ rfl hl.1 rfl (Nat.le_of_ble_eq_true rfl) (kd kX0_sumPassengers_0 25 rfl)) (fun H locs hP hS => ?_)
  refine lv_iadd C.1 C.2.1 (kd kX0_sumPassengers_0 26 rfl) ?_
  refine lv_istore_n (lv' := [(3, .int (v3 + r1_)), (0, .ref (Γ.1 138)), (1, .ref (Γ.1 b1)), (2, .int v2), (4, .int v4)]) C.1 C.2.1 (kd kX0_sumPassengers_0 27 rfl) rfl hl (Nat.le_of_ble_eq_true rfl) rfl (fun ls hl => ?_)
  exact w_X0_sumPassengers_b50 h1 C hK5 (v2) ((v3 + r1_)) (v4) σ1 H locs ls hf hP hS (lv_sub hl [1, 2, 3, 0, 4] rfl)
def f_X0_sumPassengers_b5 (b1 : Nat) : Nat → Int32 → Int32 → Int32 → fS → Option (Int32 × fS)
  | 0, _, _, _, _ => none
  | n_ + 1, v2, v3, v4, σ => fcall (f_X5_size (b1 + 9) 8 4 σ) (fun r1_ σ1 => (if r1_ ≤ v4 then some (v3, σ1) else fb v4 8 ((if (σ1 144 v4.toNatClampNeg) = (2 : Int32) then f_X0_sumPassengers_b33 b1 (fun v2 v3 v4 σ => f_X0_sumPassengers_b5 b1 n_ v2 v3 v4 σ) (v2) (v3) (v4) ((1 : Int32)) σ1 else f_X0_sumPassengers_b33 b1 (fun v2 v3 v4 σ => f_X0_sumPassengers_b5 b1 n_ v2 v3 v4 σ) (v2) (v3) (v4) ((0 : Int32)) σ1))))
set_option maxRecDepth 100000 in
set_option maxHeartbeats 4000000 in
theorem w_X0_sumPassengers_b5 {b1 : Nat} {r : Int32} {σ' : fS} (h1 : fD b1 = (3, 0, 0))  (C : fC Γ p s m args meth c cX0_sumPassengers (some .int) RX0 5) : ∀ (n_ : Nat) (v2 : Int32) (v3 : Int32) (v4 : Int32) (σ : fS) (H : Heap) (locs : List Loc) (ls : Array Slot), f_X0_sumPassengers_b5 b1 n_ v2 v3 v4 σ = some (r, σ') → fH Γ σ H → va_S (fAd Γ) s.heap H locs → lv_has ls 5 [(0, .ref (Γ.1 138)), (1, .ref (Γ.1 b1)), (2, .int v2), (3, .int v3), (4, .int v4)] → W p l e ({ frames := 1, cells := 0, slots := 0, locals := 22 } : Room) s m args below meth c H locs 0 0 (MQ below (fQi Γ r σ') args s 0 0 (fAd Γ)) (F0 m 5 ls []) := by
  intro n_
  induction n_ with
  | zero =>
    intro v2 v3 v4 σ H locs ls hf
    cases hf
  | succ n_ ih =>
    intro v2 v3 v4 σ H locs ls hf hP hS hl
    have hf : fcall (f_X5_size (b1 + 9) 8 4 σ) (fun r1_ σ1 => (if r1_ ≤ v4 then some (v3, σ1) else fb v4 8 ((if (σ1 144 v4.toNatClampNeg) = (2 : Int32) then f_X0_sumPassengers_b33 b1 (fun v2 v3 v4 σ => f_X0_sumPassengers_b5 b1 n_ v2 v3 v4 σ) (v2) (v3) (v4) ((1 : Int32)) σ1 else f_X0_sumPassengers_b33 b1 (fun v2 v3 v4 σ => f_X0_sumPassengers_b5 b1 n_ v2 v3 v4 σ) (v2) (v3) (v4) ((0 : Int32)) σ1)))) = some (r, σ') := hf
    have hK5 := ih
    refine lv_iload C.1 C.2.1 (kd kX0_sumPassengers_0 4 rfl) (lv_at hl 4 rfl) ?_
    refine lv_aload_n C.1 C.2.1 (kd kX0_sumPassengers_0 5 rfl) rfl (lv_at hl 1 rfl) ?_
    refine fl_get (j := 4) (v := .ref (Γ.1 (b1 + 9))) C hP (fe_P h1) (fD_lt h1) rfl inX3 (Nat.le_of_ble_eq_true rfl) tw_125 rfl (kd kX0_sumPassengers_0 6 rfl) ?_
    obtain ⟨r1_, σ1, hσ1, hf⟩ := fcall_some hf
    refine fl_i hS (fl_runV (As := []) (rest := [.int v4]) C hP (fe_T (fD_prt h1).2.2.2.2.1) (fD_lt (fD_prt h1).2.2.2.2.1) rfl (m_X5_size C.2.2.2.2.2.2.2.2 l (fD_prt h1).2.2.2.2.1 hσ1) (fgV tw_539 tw_414 tw_415 tw_69 tw_416) hd_X5_size ⟨rfl, rfl, Nat.le_of_ble_eq_true rfl, Nat.le_of_ble_eq_true rfl⟩ rfl hl.1 rfl (Nat.le_of_ble_eq_true rfl) (kd kX0_sumPassengers_0 7 rfl)) (fun H locs hP hS => ?_)
    refine lv_icmp_ge (tgt := 56) C.1 C.2.1 (kd kX0_sumPassengers_0 8 rfl) (by decide) (fun q => ?_) (fun q => ?_)
    · have hf := fif_pos q hf
      refine lv_iload_n C.1 C.2.1 (kd kX0_sumPassengers_0 30 rfl) rfl (lv_at hl 3 rfl) ?_
      exact fl_iret C hP hS hf (kd kX0_sumPassengers_0 31 rfl)
    have hf := fif_neg q hf
    refine lv_aload_n C.1 C.2.1 (kd kX0_sumPassengers_0 9 rfl) rfl (lv_at hl 0 rfl) ?_
    refine fl_get (j := 5) (v := .ref (Γ.1 144)) C hP rfl (Nat.le_of_ble_eq_true rfl) rfl inX0 (Nat.le_of_ble_eq_true rfl) tw_182 rfl (kd kX0_sumPassengers_0 10 rfl) ?_
    refine lv_iload C.1 C.2.1 (kd kX0_sumPassengers_0 11 rfl) (lv_at hl 4 rfl) ?_
    obtain ⟨hq, hf⟩ := fb_some hf
    refine fl_iald C hP rfl hq (kd kX0_sumPassengers_0 12 rfl) ?_
    refine lv_iconst (v := (2 : Int32)) C.1 C.2.1 (kd kX0_sumPassengers_0 13 rfl) (by decide) ?_
    refine lv_icmp_ne (tgt := 32) C.1 C.2.1 (kd kX0_sumPassengers_0 14 rfl) (by decide) (fun q => ?_) (fun q => ?_)
    · have hf := fif_neg q hf
      refine lv_iconst (v := (0 : Int32)) C.1 C.2.1 (kd kX0_sumPassengers_0 17 rfl) (by decide) ?_
      exact w_X0_sumPassengers_b33 h1 C hK5 (v2) (v3) (v4) ((0 : Int32)) σ1 H locs ls hf hP hS (lv_sub hl [0, 1, 2, 3, 4] rfl)
    have hf := fif_pos q hf
    refine lv_iconst (v := (1 : Int32)) C.1 C.2.1 (kd kX0_sumPassengers_0 15 rfl) (by decide) ?_
    refine lv_goto (tgt := 33) C.1 C.2.1 (kd kX0_sumPassengers_0 16 rfl) (by decide) ?_
    exact w_X0_sumPassengers_b33 h1 C hK5 (v2) (v3) (v4) ((1 : Int32)) σ1 H locs ls hf hP hS (lv_sub hl [0, 1, 2, 3, 4] rfl)
def f_X0_sumPassengers (b1 : Nat) (x2 : Int32) (σ : fS) : Option (Int32 × fS) := f_X0_sumPassengers_b5 b1 fN (x2) ((0 : Int32)) ((0 : Int32)) σ
set_option maxRecDepth 100000 in
set_option maxHeartbeats 4000000 in
theorem m_X0_sumPassengers {Γ : fGm} (hI : fI Γ) (l : Launch) {b1 : Nat} {x2 : Int32} (h1 : fD b1 = (3, 0, 0)) {σ : fS} {r : Int32} {σ' : fS} (hf : f_X0_sumPassengers b1 x2 σ = some (r, σ')) : Met l yX0_sumPassengers (.code yX0_sumPassengers cX0_sumPassengers 5 (some .int) :: lw_g) ({ frames := 1, cells := 0, slots := 0, locals := 22 } : Room) (fPre Γ [.ref (Γ.1 138), .ref (Γ.1 b1), .int x2] σ) (fQi Γ r σ') 0 0 (fAd Γ) := by
  refine fl_enter (own := RX0) hI (by decide +kernel) rfl (Nat.le_of_ble_eq_true rfl) ?_
  intro p e s m args below meth c ls C hl hP hS
  have hl : lv_has ls 5 [(0, .ref (Γ.1 138)), (1, .ref (Γ.1 b1)), (2, .int x2)] := hl
  obtain ⟨H, hH⟩ : ∃ H, H = s.heap := ⟨_, rfl⟩
  obtain ⟨locs, hL⟩ : ∃ L : List Loc, L = [] := ⟨_, rfl⟩
  have hP : fH Γ σ H := by rw [hH]; exact hP
  have hS : va_S (fAd Γ) s.heap H locs := by rw [hH, hL]; exact hS
  suffices hw : W p l e ({ frames := 1, cells := 0, slots := 0, locals := 22 } : Room) s m args below meth c H locs 0 0 (MQ below (fQi Γ r σ') args s 0 0 (fAd Γ)) (F0 m 0 ls []) by rw [hH, hL] at hw; exact hw
  unfold f_X0_sumPassengers at hf
  refine lv_iconst (v := (0 : Int32)) C.1 C.2.1 (kd kX0_sumPassengers_0 0 rfl) (by decide) ?_
  refine lv_istore_n (lv' := [(3, .int (0 : Int32)), (0, .ref (Γ.1 138)), (1, .ref (Γ.1 b1)), (2, .int x2)]) C.1 C.2.1 (kd kX0_sumPassengers_0 1 rfl) rfl hl (Nat.le_of_ble_eq_true rfl) rfl (fun ls hl => ?_)
  refine lv_iconst (v := (0 : Int32)) C.1 C.2.1 (kd kX0_sumPassengers_0 2 rfl) (by decide) ?_
  refine lv_istore (lv' := [(4, .int (0 : Int32)), (3, .int (0 : Int32)), (0, .ref (Γ.1 138)), (1, .ref (Γ.1 b1)), (2, .int x2)]) C.1 C.2.1 (kd kX0_sumPassengers_0 3 rfl) hl (Nat.le_of_ble_eq_true rfl) rfl (fun ls hl => ?_)
  exact w_X0_sumPassengers_b5 h1 C fN (x2) ((0 : Int32)) ((0 : Int32)) σ H locs ls hf hP hS (lv_sub hl [2, 3, 4, 1, 0] rfl)
def f_X0_sumDelays_b4 (b1 : Nat) : Nat → Int32 → Int32 → fS → Option (Int32 × fS)
  | 0, _, _, _ => none
  | n_ + 1, v2, v3, σ => fcall (f_X5_size (b1 + 5) 12 4 σ) (fun r1_ σ1 => (if r1_ ≤ v3 then some (v2, σ1) else fb v3 12 ((fun v2 v3 σ => f_X0_sumDelays_b4 b1 n_ v2 v3 σ) ((v2 + (σ1 143 v3.toNatClampNeg))) ((v3 + (1 : Int32))) σ1)))
set_option maxRecDepth 100000 in
set_option maxHeartbeats 4000000 in
theorem w_X0_sumDelays_b4 {b1 : Nat} {r : Int32} {σ' : fS} (h1 : fD b1 = (3, 0, 0))  (C : fC Γ p s m args meth c cX0_sumDelays (some .int) RX0 4) : ∀ (n_ : Nat) (v2 : Int32) (v3 : Int32) (σ : fS) (H : Heap) (locs : List Loc) (ls : Array Slot), f_X0_sumDelays_b4 b1 n_ v2 v3 σ = some (r, σ') → fH Γ σ H → va_S (fAd Γ) s.heap H locs → lv_has ls 4 [(0, .ref (Γ.1 138)), (1, .ref (Γ.1 b1)), (2, .int v2), (3, .int v3)] → W p l e ({ frames := 1, cells := 0, slots := 0, locals := 20 } : Room) s m args below meth c H locs 0 0 (MQ below (fQi Γ r σ') args s 0 0 (fAd Γ)) (F0 m 4 ls []) := by
  intro n_
  induction n_ with
  | zero =>
    intro v2 v3 σ H locs ls hf
    cases hf
  | succ n_ ih =>
    intro v2 v3 σ H locs ls hf hP hS hl
    have hf : fcall (f_X5_size (b1 + 5) 12 4 σ) (fun r1_ σ1 => (if r1_ ≤ v3 then some (v2, σ1) else fb v3 12 ((fun v2 v3 σ => f_X0_sumDelays_b4 b1 n_ v2 v3 σ) ((v2 + (σ1 143 v3.toNatClampNeg))) ((v3 + (1 : Int32))) σ1))) = some (r, σ') := hf
    have hK4 := ih
    refine lv_iload_n C.1 C.2.1 (kd kX0_sumDelays_0 4 rfl) rfl (lv_at hl 3 rfl) ?_
    refine lv_aload_n C.1 C.2.1 (kd kX0_sumDelays_0 5 rfl) rfl (lv_at hl 1 rfl) ?_
    refine fl_get (j := 2) (v := .ref (Γ.1 (b1 + 5))) C hP (fe_P h1) (fD_lt h1) rfl inX3 (Nat.le_of_ble_eq_true rfl) tw_118 rfl (kd kX0_sumDelays_0 6 rfl) ?_
    obtain ⟨r1_, σ1, hσ1, hf⟩ := fcall_some hf
    refine fl_i hS (fl_runV (As := []) (rest := [.int v3]) C hP (fe_T (fD_prt h1).2.2.1) (fD_lt (fD_prt h1).2.2.1) rfl (m_X5_size C.2.2.2.2.2.2.2.2 l (fD_prt h1).2.2.1 hσ1) (fgV tw_539 tw_414 tw_415 tw_69 tw_416) hd_X5_size ⟨rfl, rfl, Nat.le_of_ble_eq_true rfl, Nat.le_of_ble_eq_true rfl⟩ rfl hl.1 rfl (Nat.le_of_ble_eq_true rfl) (kd kX0_sumDelays_0 7 rfl)) (fun H locs hP hS => ?_)
    refine lv_icmp_ge (tgt := 30) C.1 C.2.1 (kd kX0_sumDelays_0 8 rfl) (by decide) (fun q => ?_) (fun q => ?_)
    · have hf := fif_pos q hf
      refine lv_iload_n C.1 C.2.1 (kd kX0_sumDelays_0 18 rfl) rfl (lv_at hl 2 rfl) ?_
      exact fl_iret C hP hS hf (kd kX0_sumDelays_0 19 rfl)
    have hf := fif_neg q hf
    refine lv_iload_n C.1 C.2.1 (kd kX0_sumDelays_0 9 rfl) rfl (lv_at hl 2 rfl) ?_
    refine lv_aload_n C.1 C.2.1 (kd kX0_sumDelays_0 10 rfl) rfl (lv_at hl 0 rfl) ?_
    refine fl_get (j := 4) (v := .ref (Γ.1 143)) C hP rfl (Nat.le_of_ble_eq_true rfl) rfl inX0 (Nat.le_of_ble_eq_true rfl) tw_181 rfl (kd kX0_sumDelays_0 11 rfl) ?_
    refine lv_iload_n C.1 C.2.1 (kd kX0_sumDelays_0 12 rfl) rfl (lv_at hl 3 rfl) ?_
    obtain ⟨hq, hf⟩ := fb_some hf
    refine fl_iald C hP rfl hq (kd kX0_sumDelays_0 13 rfl) ?_
    refine lv_iadd C.1 C.2.1 (kd kX0_sumDelays_0 14 rfl) ?_
    refine lv_istore_n (lv' := [(2, .int (v2 + (σ1 143 v3.toNatClampNeg))), (0, .ref (Γ.1 138)), (1, .ref (Γ.1 b1)), (3, .int v3)]) C.1 C.2.1 (kd kX0_sumDelays_0 15 rfl) rfl hl (Nat.le_of_ble_eq_true rfl) rfl (fun ls hl => ?_)
    refine lv_iinc (v := (v3 + (1 : Int32))) (lv' := [(3, .int (v3 + (1 : Int32))), (2, .int (v2 + (σ1 143 v3.toNatClampNeg))), (0, .ref (Γ.1 138)), (1, .ref (Γ.1 b1))]) C.1 C.2.1 (kd kX0_sumDelays_0 16 rfl) hl (k := 3) rfl rfl (Nat.le_of_ble_eq_true rfl) rfl (fun ls hl => ?_)
    refine lv_goto (tgt := 4) C.1 C.2.1 (kd kX0_sumDelays_0 17 rfl) (by decide) ?_
    exact hK4 ((v2 + (σ1 143 v3.toNatClampNeg))) ((v3 + (1 : Int32))) σ1 H locs ls hf hP hS (lv_sub hl [2, 3, 1, 0] rfl)
def f_X0_sumDelays (b1 : Nat) (σ : fS) : Option (Int32 × fS) := f_X0_sumDelays_b4 b1 fN ((0 : Int32)) ((0 : Int32)) σ
set_option maxRecDepth 100000 in
set_option maxHeartbeats 4000000 in
theorem m_X0_sumDelays {Γ : fGm} (hI : fI Γ) (l : Launch) {b1 : Nat} (h1 : fD b1 = (3, 0, 0)) {σ : fS} {r : Int32} {σ' : fS} (hf : f_X0_sumDelays b1 σ = some (r, σ')) : Met l yX0_sumDelays (.code yX0_sumDelays cX0_sumDelays 4 (some .int) :: lw_g) ({ frames := 1, cells := 0, slots := 0, locals := 20 } : Room) (fPre Γ [.ref (Γ.1 138), .ref (Γ.1 b1)] σ) (fQi Γ r σ') 0 0 (fAd Γ) := by
  refine fl_enter (own := RX0) hI (by decide +kernel) rfl (Nat.le_of_ble_eq_true rfl) ?_
  intro p e s m args below meth c ls C hl hP hS
  have hl : lv_has ls 4 [(0, .ref (Γ.1 138)), (1, .ref (Γ.1 b1))] := hl
  obtain ⟨H, hH⟩ : ∃ H, H = s.heap := ⟨_, rfl⟩
  obtain ⟨locs, hL⟩ : ∃ L : List Loc, L = [] := ⟨_, rfl⟩
  have hP : fH Γ σ H := by rw [hH]; exact hP
  have hS : va_S (fAd Γ) s.heap H locs := by rw [hH, hL]; exact hS
  suffices hw : W p l e ({ frames := 1, cells := 0, slots := 0, locals := 20 } : Room) s m args below meth c H locs 0 0 (MQ below (fQi Γ r σ') args s 0 0 (fAd Γ)) (F0 m 0 ls []) by rw [hH, hL] at hw; exact hw
  unfold f_X0_sumDelays at hf
  refine lv_iconst (v := (0 : Int32)) C.1 C.2.1 (kd kX0_sumDelays_0 0 rfl) (by decide) ?_
  refine lv_istore_n (lv' := [(2, .int (0 : Int32)), (0, .ref (Γ.1 138)), (1, .ref (Γ.1 b1))]) C.1 C.2.1 (kd kX0_sumDelays_0 1 rfl) rfl hl (Nat.le_of_ble_eq_true rfl) rfl (fun ls hl => ?_)
  refine lv_iconst (v := (0 : Int32)) C.1 C.2.1 (kd kX0_sumDelays_0 2 rfl) (by decide) ?_
  refine lv_istore_n (lv' := [(3, .int (0 : Int32)), (2, .int (0 : Int32)), (0, .ref (Γ.1 138)), (1, .ref (Γ.1 b1))]) C.1 C.2.1 (kd kX0_sumDelays_0 3 rfl) rfl hl (Nat.le_of_ble_eq_true rfl) rfl (fun ls hl => ?_)
  exact w_X0_sumDelays_b4 h1 C fN ((0 : Int32)) ((0 : Int32)) σ H locs ls hf hP hS (lv_sub hl [2, 3, 1, 0] rfl)
def f_X0_sumLaneMeters_b37 (b1 : Nat) (K4 : Int32 → Int32 → fS → Option (Int32 × fS)) (v2 : Int32) (v3 : Int32) (σ : fS) : Option (Int32 × fS) := K4 (v2) ((v3 + (1 : Int32))) σ
set_option maxRecDepth 100000 in
set_option maxHeartbeats 4000000 in
theorem w_X0_sumLaneMeters_b37 {b1 : Nat} {r : Int32} {σ' : fS} {K4 : Int32 → Int32 → fS → Option (Int32 × fS)} (h1 : fD b1 = (3, 0, 0))  (C : fC Γ p s m args meth c cX0_sumLaneMeters (some .int) RX0 4) (hK4 : ∀ (v2 : Int32) (v3 : Int32) (σ : fS) (H : Heap) (locs : List Loc) (ls : Array Slot), K4 v2 v3 σ = some (r, σ') → fH Γ σ H → va_S (fAd Γ) s.heap H locs → lv_has ls 4 [(0, .ref (Γ.1 138)), (1, .ref (Γ.1 b1)), (2, .int v2), (3, .int v3)] → W p l e ({ frames := 2, cells := 0, slots := 0, locals := 43 } : Room) s m args below meth c H locs 0 0 (MQ below (fQi Γ r σ') args s 0 0 (fAd Γ)) (F0 m 4 ls [])) : ∀ (v2 : Int32) (v3 : Int32) (σ : fS) (H : Heap) (locs : List Loc) (ls : Array Slot), f_X0_sumLaneMeters_b37 b1 K4 v2 v3 σ = some (r, σ') → fH Γ σ H → va_S (fAd Γ) s.heap H locs → lv_has ls 4 [(0, .ref (Γ.1 138)), (1, .ref (Γ.1 b1)), (2, .int v2), (3, .int v3)] → W p l e ({ frames := 2, cells := 0, slots := 0, locals := 43 } : Room) s m args below meth c H locs 0 0 (MQ below (fQi Γ r σ') args s 0 0 (fAd Γ)) (F0 m 37 ls []) := by
  intro v2 v3 σ H locs ls hf hP hS hl
  unfold f_X0_sumLaneMeters_b37 at hf
  refine lv_iinc (v := (v3 + (1 : Int32))) (lv' := [(3, .int (v3 + (1 : Int32))), (0, .ref (Γ.1 138)), (1, .ref (Γ.1 b1)), (2, .int v2)]) C.1 C.2.1 (kd kX0_sumLaneMeters_0 23 rfl) hl (k := 3) rfl rfl (Nat.le_of_ble_eq_true rfl) rfl (fun ls hl => ?_)
  refine lv_goto (tgt := 4) C.1 C.2.1 (kd kX0_sumLaneMeters_0 24 rfl) (by decide) ?_
  exact hK4 (v2) ((v3 + (1 : Int32))) σ H locs ls hf hP hS (lv_sub hl [1, 2, 3, 0] rfl)
def f_X0_sumLaneMeters_b4 (b1 : Nat) : Nat → Int32 → Int32 → fS → Option (Int32 × fS)
  | 0, _, _, _ => none
  | n_ + 1, v2, v3, σ => fcall (f_X5_size (b1 + 5) 12 4 σ) (fun r1_ σ1 => (if r1_ ≤ v3 then some (v2, σ1) else fcall (f_X0_sails v3 σ1) (fun r2_ σ2 => (if r2_ = 0 then f_X0_sumLaneMeters_b37 b1 (fun v2 v3 σ => f_X0_sumLaneMeters_b4 b1 n_ v2 v3 σ) (v2) (v3) σ2 else fcall (f_X3_lanesOf b1 v3 σ2) (fun r3_ σ3 => fcall (f_X3_laneLengthOf b1 v3 σ3) (fun r4_ σ4 => f_X0_sumLaneMeters_b37 b1 (fun v2 v3 σ => f_X0_sumLaneMeters_b4 b1 n_ v2 v3 σ) ((v2 + (r3_ * r4_))) (v3) σ4))))))
set_option maxRecDepth 100000 in
set_option maxHeartbeats 4000000 in
theorem w_X0_sumLaneMeters_b4 {b1 : Nat} {r : Int32} {σ' : fS} (h1 : fD b1 = (3, 0, 0))  (C : fC Γ p s m args meth c cX0_sumLaneMeters (some .int) RX0 4) : ∀ (n_ : Nat) (v2 : Int32) (v3 : Int32) (σ : fS) (H : Heap) (locs : List Loc) (ls : Array Slot), f_X0_sumLaneMeters_b4 b1 n_ v2 v3 σ = some (r, σ') → fH Γ σ H → va_S (fAd Γ) s.heap H locs → lv_has ls 4 [(0, .ref (Γ.1 138)), (1, .ref (Γ.1 b1)), (2, .int v2), (3, .int v3)] → W p l e ({ frames := 2, cells := 0, slots := 0, locals := 43 } : Room) s m args below meth c H locs 0 0 (MQ below (fQi Γ r σ') args s 0 0 (fAd Γ)) (F0 m 4 ls []) := by
  intro n_
  induction n_ with
  | zero =>
    intro v2 v3 σ H locs ls hf
    cases hf
  | succ n_ ih =>
    intro v2 v3 σ H locs ls hf hP hS hl
    have hf : fcall (f_X5_size (b1 + 5) 12 4 σ) (fun r1_ σ1 => (if r1_ ≤ v3 then some (v2, σ1) else fcall (f_X0_sails v3 σ1) (fun r2_ σ2 => (if r2_ = 0 then f_X0_sumLaneMeters_b37 b1 (fun v2 v3 σ => f_X0_sumLaneMeters_b4 b1 n_ v2 v3 σ) (v2) (v3) σ2 else fcall (f_X3_lanesOf b1 v3 σ2) (fun r3_ σ3 => fcall (f_X3_laneLengthOf b1 v3 σ3) (fun r4_ σ4 => f_X0_sumLaneMeters_b37 b1 (fun v2 v3 σ => f_X0_sumLaneMeters_b4 b1 n_ v2 v3 σ) ((v2 + (r3_ * r4_))) (v3) σ4)))))) = some (r, σ') := hf
    have hK4 := ih
    refine lv_iload_n C.1 C.2.1 (kd kX0_sumLaneMeters_0 4 rfl) rfl (lv_at hl 3 rfl) ?_
    refine lv_aload_n C.1 C.2.1 (kd kX0_sumLaneMeters_0 5 rfl) rfl (lv_at hl 1 rfl) ?_
    refine fl_get (j := 2) (v := .ref (Γ.1 (b1 + 5))) C hP (fe_P h1) (fD_lt h1) rfl inX3 (Nat.le_of_ble_eq_true rfl) tw_118 rfl (kd kX0_sumLaneMeters_0 6 rfl) ?_
    obtain ⟨r1_, σ1, hσ1, hf⟩ := fcall_some hf
    refine fl_i hS (fl_runV (As := []) (rest := [.int v3]) C hP (fe_T (fD_prt h1).2.2.1) (fD_lt (fD_prt h1).2.2.1) rfl (m_X5_size C.2.2.2.2.2.2.2.2 l (fD_prt h1).2.2.1 hσ1) (fgV tw_539 tw_414 tw_415 tw_69 tw_416) hd_X5_size ⟨rfl, rfl, Nat.le_of_ble_eq_true rfl, Nat.le_of_ble_eq_true rfl⟩ rfl hl.1 rfl (Nat.le_of_ble_eq_true rfl) (kd kX0_sumLaneMeters_0 7 rfl)) (fun H locs hP hS => ?_)
    refine lv_icmp_ge (tgt := 43) C.1 C.2.1 (kd kX0_sumLaneMeters_0 8 rfl) (by decide) (fun q => ?_) (fun q => ?_)
    · have hf := fif_pos q hf
      refine lv_iload_n C.1 C.2.1 (kd kX0_sumLaneMeters_0 25 rfl) rfl (lv_at hl 2 rfl) ?_
      exact fl_iret C hP hS hf (kd kX0_sumLaneMeters_0 26 rfl)
    have hf := fif_neg q hf
    refine lv_aload_n C.1 C.2.1 (kd kX0_sumLaneMeters_0 9 rfl) rfl (lv_at hl 0 rfl) ?_
    refine lv_iload_n C.1 C.2.1 (kd kX0_sumLaneMeters_0 10 rfl) rfl (lv_at hl 3 rfl) ?_
    obtain ⟨r2_, σ2, hσ2, hf⟩ := fcall_some hf
    refine fl_i hS (fl_runV (As := [.int v3]) (rest := []) C hP rfl (Nat.le_of_ble_eq_true rfl) rfl (m_X0_sails C.2.2.2.2.2.2.2.2 l  hσ2) (fgV tw_579 tw_580 tw_581 tw_71 tw_582) hd_X0_sails ⟨rfl, rfl, Nat.le_of_ble_eq_true rfl, Nat.le_of_ble_eq_true rfl⟩ rfl hl.1 rfl (Nat.le_of_ble_eq_true rfl) (kd kX0_sumLaneMeters_0 11 rfl)) (fun H locs hP hS => ?_)
    refine lv_if_eq (tgt := 37) C.1 C.2.1 (kd kX0_sumLaneMeters_0 12 rfl) (by decide) (fun q => ?_) (fun q => ?_)
    · have hf := fif_pos q hf
      exact w_X0_sumLaneMeters_b37 h1 C hK4 (v2) (v3) σ2 H locs ls hf hP hS (lv_sub hl [0, 1, 2, 3] rfl)
    have hf := fif_neg q hf
    refine lv_iload_n C.1 C.2.1 (kd kX0_sumLaneMeters_0 13 rfl) rfl (lv_at hl 2 rfl) ?_
    refine lv_aload_n C.1 C.2.1 (kd kX0_sumLaneMeters_0 14 rfl) rfl (lv_at hl 1 rfl) ?_
    refine lv_iload_n C.1 C.2.1 (kd kX0_sumLaneMeters_0 15 rfl) rfl (lv_at hl 3 rfl) ?_
    obtain ⟨r3_, σ3, hσ3, hf⟩ := fcall_some hf
    refine fl_i hS (fl_runV (As := [.int v3]) (rest := [.int v2]) C hP (fe_P h1) (fD_lt h1) rfl (m_X3_lanesOf C.2.2.2.2.2.2.2.2 l h1 hσ3) (fgV tw_789 tw_644 tw_645 tw_68 tw_646) hd_X3_lanesOf ⟨rfl, rfl, Nat.le_of_ble_eq_true rfl, Nat.le_of_ble_eq_true rfl⟩ rfl hl.1 rfl (Nat.le_of_ble_eq_true rfl) (kd kX0_sumLaneMeters_0 16 rfl)) (fun H locs hP hS => ?_)
    refine lv_aload_n C.1 C.2.1 (kd kX0_sumLaneMeters_0 17 rfl) rfl (lv_at hl 1 rfl) ?_
    refine lv_iload_n C.1 C.2.1 (kd kX0_sumLaneMeters_0 18 rfl) rfl (lv_at hl 3 rfl) ?_
    obtain ⟨r4_, σ4, hσ4, hf⟩ := fcall_some hf
    refine fl_i hS (fl_runV (As := [.int v3]) (rest := [.int r3_, .int v2]) C hP (fe_P h1) (fD_lt h1) rfl (m_X3_laneLengthOf C.2.2.2.2.2.2.2.2 l h1 hσ4) (fgV tw_790 tw_622 tw_623 tw_68 tw_624) hd_X3_laneLengthOf ⟨rfl, rfl, Nat.le_of_ble_eq_true rfl, Nat.le_of_ble_eq_true rfl⟩ rfl hl.1 rfl (Nat.le_of_ble_eq_true rfl) (kd kX0_sumLaneMeters_0 19 rfl)) (fun H locs hP hS => ?_)
    refine lv_imul C.1 C.2.1 (kd kX0_sumLaneMeters_0 20 rfl) ?_
    refine lv_iadd C.1 C.2.1 (kd kX0_sumLaneMeters_0 21 rfl) ?_
    refine lv_istore_n (lv' := [(2, .int (v2 + (r3_ * r4_))), (0, .ref (Γ.1 138)), (1, .ref (Γ.1 b1)), (3, .int v3)]) C.1 C.2.1 (kd kX0_sumLaneMeters_0 22 rfl) rfl hl (Nat.le_of_ble_eq_true rfl) rfl (fun ls hl => ?_)
    exact w_X0_sumLaneMeters_b37 h1 C hK4 ((v2 + (r3_ * r4_))) (v3) σ4 H locs ls hf hP hS (lv_sub hl [1, 2, 0, 3] rfl)
def f_X0_sumLaneMeters (b1 : Nat) (σ : fS) : Option (Int32 × fS) := f_X0_sumLaneMeters_b4 b1 fN ((0 : Int32)) ((0 : Int32)) σ
set_option maxRecDepth 100000 in
set_option maxHeartbeats 4000000 in
theorem m_X0_sumLaneMeters {Γ : fGm} (hI : fI Γ) (l : Launch) {b1 : Nat} (h1 : fD b1 = (3, 0, 0)) {σ : fS} {r : Int32} {σ' : fS} (hf : f_X0_sumLaneMeters b1 σ = some (r, σ')) : Met l yX0_sumLaneMeters (.code yX0_sumLaneMeters cX0_sumLaneMeters 4 (some .int) :: lw_g) ({ frames := 2, cells := 0, slots := 0, locals := 43 } : Room) (fPre Γ [.ref (Γ.1 138), .ref (Γ.1 b1)] σ) (fQi Γ r σ') 0 0 (fAd Γ) := by
  refine fl_enter (own := RX0) hI (by decide +kernel) rfl (Nat.le_of_ble_eq_true rfl) ?_
  intro p e s m args below meth c ls C hl hP hS
  have hl : lv_has ls 4 [(0, .ref (Γ.1 138)), (1, .ref (Γ.1 b1))] := hl
  obtain ⟨H, hH⟩ : ∃ H, H = s.heap := ⟨_, rfl⟩
  obtain ⟨locs, hL⟩ : ∃ L : List Loc, L = [] := ⟨_, rfl⟩
  have hP : fH Γ σ H := by rw [hH]; exact hP
  have hS : va_S (fAd Γ) s.heap H locs := by rw [hH, hL]; exact hS
  suffices hw : W p l e ({ frames := 2, cells := 0, slots := 0, locals := 43 } : Room) s m args below meth c H locs 0 0 (MQ below (fQi Γ r σ') args s 0 0 (fAd Γ)) (F0 m 0 ls []) by rw [hH, hL] at hw; exact hw
  unfold f_X0_sumLaneMeters at hf
  refine lv_iconst (v := (0 : Int32)) C.1 C.2.1 (kd kX0_sumLaneMeters_0 0 rfl) (by decide) ?_
  refine lv_istore_n (lv' := [(2, .int (0 : Int32)), (0, .ref (Γ.1 138)), (1, .ref (Γ.1 b1))]) C.1 C.2.1 (kd kX0_sumLaneMeters_0 1 rfl) rfl hl (Nat.le_of_ble_eq_true rfl) rfl (fun ls hl => ?_)
  refine lv_iconst (v := (0 : Int32)) C.1 C.2.1 (kd kX0_sumLaneMeters_0 2 rfl) (by decide) ?_
  refine lv_istore_n (lv' := [(3, .int (0 : Int32)), (2, .int (0 : Int32)), (0, .ref (Γ.1 138)), (1, .ref (Γ.1 b1))]) C.1 C.2.1 (kd kX0_sumLaneMeters_0 3 rfl) rfl hl (Nat.le_of_ble_eq_true rfl) rfl (fun ls hl => ?_)
  exact w_X0_sumLaneMeters_b4 h1 C fN ((0 : Int32)) ((0 : Int32)) σ H locs ls hf hP hS (lv_sub hl [2, 3, 1, 0] rfl)
end GM

section GM
variable {p : Program} {l : Launch} {e : Env} {s : State} {m : MethodId} {args : Array Value} {below : List Frame} {meth : Method} {c : Code} {Γ : fGm}
def f_X6_take_b50 (K5 : Int32 → Int32 → Int32 → fS → Option (Int32 × fS)) (v1 : Int32) (v3 : Int32) (s0 : Int32) (s1 : Int32) (σ : fS) : Option (Int32 × fS) := K5 (v1) ((s1 + s0)) ((v3 + (-8 : Int32))) σ
set_option maxRecDepth 100000 in
set_option maxHeartbeats 4000000 in
theorem w_X6_take_b50 {r : Int32} {σ' : fS} {K5 : Int32 → Int32 → Int32 → fS → Option (Int32 × fS)}  (C : fC Γ p s m args meth c cX6_take (some .int) RX6 5) (hK5 : ∀ (v1 : Int32) (v2 : Int32) (v3 : Int32) (σ : fS) (H : Heap) (locs : List Loc) (ls : Array Slot), K5 v1 v2 v3 σ = some (r, σ') → fH Γ σ H → va_S (fAd Γ) s.heap H locs → lv_has ls 5 [(0, .ref (Γ.1 157)), (1, .int v1), (2, .int v2), (3, .int v3)] → W p l e ({ frames := 1, cells := 0, slots := 0, locals := 22 } : Room) s m args below meth c H locs 0 0 (MQ below (fQi Γ r σ') args s 0 0 (fAd Γ)) (F0 m 5 ls [])) : ∀ (v1 : Int32) (v3 : Int32) (s0 : Int32) (s1 : Int32) (σ : fS) (H : Heap) (locs : List Loc) (ls : Array Slot), f_X6_take_b50 K5 v1 v3 s0 s1 σ = some (r, σ') → fH Γ σ H → va_S (fAd Γ) s.heap H locs → lv_has ls 5 [(0, .ref (Γ.1 157)), (1, .int v1), (3, .int v3)] → W p l e ({ frames := 1, cells := 0, slots := 0, locals := 22 } : Room) s m args below meth c H locs 0 0 (MQ below (fQi Γ r σ') args s 0 0 (fAd Γ)) (F0 m 50 ls [.int s0, .int s1]) := by
  intro v1 v3 s0 s1 σ H locs ls hf hP hS hl
  unfold f_X6_take_b50 at hf
  refine lv_iadd C.1 C.2.1 (kd kX6_take_0 27 rfl) ?_
  refine lv_istore_n (lv' := [(2, .int (s1 + s0)), (0, .ref (Γ.1 157)), (1, .int v1), (3, .int v3)]) C.1 C.2.1 (kd kX6_take_0 28 rfl) rfl hl (Nat.le_of_ble_eq_true rfl) rfl (fun ls hl => ?_)
  refine lv_iinc (v := (v3 + (-8 : Int32))) (lv' := [(3, .int (v3 + (-8 : Int32))), (2, .int (s1 + s0)), (0, .ref (Γ.1 157)), (1, .int v1)]) C.1 C.2.1 (kd kX6_take_0 29 rfl) hl (k := 3) rfl rfl (Nat.le_of_ble_eq_true rfl) rfl (fun ls hl => ?_)
  refine lv_goto (tgt := 5) C.1 C.2.1 (kd kX6_take_0 30 rfl) (by decide) ?_
  exact hK5 (v1) ((s1 + s0)) ((v3 + (-8 : Int32))) σ H locs ls hf hP hS (lv_sub hl [2, 3, 1, 0] rfl)
def f_X6_take_b39 (K5 : Int32 → Int32 → Int32 → fS → Option (Int32 × fS)) (v1 : Int32) (v2 : Int32) (v3 : Int32) (v4 : Int32) (σ : fS) : Option (Int32 × fS) := (if v4 = 0 then f_X6_take_b50 K5 (v1) (v3) ((0 : Int32)) (v2) σ else f_X6_take_b50 K5 (v1) (v3) ((1 : Int32)) (v2) σ)
set_option maxRecDepth 100000 in
set_option maxHeartbeats 4000000 in
theorem w_X6_take_b39 {r : Int32} {σ' : fS} {K5 : Int32 → Int32 → Int32 → fS → Option (Int32 × fS)}  (C : fC Γ p s m args meth c cX6_take (some .int) RX6 5) (hK5 : ∀ (v1 : Int32) (v2 : Int32) (v3 : Int32) (σ : fS) (H : Heap) (locs : List Loc) (ls : Array Slot), K5 v1 v2 v3 σ = some (r, σ') → fH Γ σ H → va_S (fAd Γ) s.heap H locs → lv_has ls 5 [(0, .ref (Γ.1 157)), (1, .int v1), (2, .int v2), (3, .int v3)] → W p l e ({ frames := 1, cells := 0, slots := 0, locals := 22 } : Room) s m args below meth c H locs 0 0 (MQ below (fQi Γ r σ') args s 0 0 (fAd Γ)) (F0 m 5 ls [])) : ∀ (v1 : Int32) (v2 : Int32) (v3 : Int32) (v4 : Int32) (σ : fS) (H : Heap) (locs : List Loc) (ls : Array Slot), f_X6_take_b39 K5 v1 v2 v3 v4 σ = some (r, σ') → fH Γ σ H → va_S (fAd Γ) s.heap H locs → lv_has ls 5 [(0, .ref (Γ.1 157)), (1, .int v1), (2, .int v2), (3, .int v3), (4, .int v4)] → W p l e ({ frames := 1, cells := 0, slots := 0, locals := 22 } : Room) s m args below meth c H locs 0 0 (MQ below (fQi Γ r σ') args s 0 0 (fAd Γ)) (F0 m 39 ls []) := by
  intro v1 v2 v3 v4 σ H locs ls hf hP hS hl
  unfold f_X6_take_b39 at hf
  refine lv_iload_n C.1 C.2.1 (kd kX6_take_0 21 rfl) rfl (lv_at hl 2 rfl) ?_
  refine lv_iload C.1 C.2.1 (kd kX6_take_0 22 rfl) (lv_at hl 4 rfl) ?_
  refine lv_if_ne (tgt := 49) C.1 C.2.1 (kd kX6_take_0 23 rfl) (by decide) (fun q => ?_) (fun q => ?_)
  · have hf := fif_neg q hf
    refine lv_iconst (v := (1 : Int32)) C.1 C.2.1 (kd kX6_take_0 26 rfl) (by decide) ?_
    exact w_X6_take_b50 C hK5 (v1) (v3) ((1 : Int32)) (v2) σ H locs ls hf hP hS (lv_sub hl [0, 1, 3] rfl)
  have hf := fif_pos q hf
  refine lv_iconst (v := (0 : Int32)) C.1 C.2.1 (kd kX6_take_0 24 rfl) (by decide) ?_
  refine lv_goto (tgt := 50) C.1 C.2.1 (kd kX6_take_0 25 rfl) (by decide) ?_
  exact w_X6_take_b50 C hK5 (v1) (v3) ((0 : Int32)) (v2) σ H locs ls hf hP hS (lv_sub hl [0, 1, 3] rfl)
def f_X6_take_b116 (K76 : Int32 → Int32 → fS → Option (Int32 × fS)) (v1 : Int32) (v3 : Int32) (σ : fS) : Option (Int32 × fS) := K76 (v1) ((v3 + (-8 : Int32))) σ
set_option maxRecDepth 100000 in
set_option maxHeartbeats 4000000 in
theorem w_X6_take_b116 {r : Int32} {σ' : fS} {K76 : Int32 → Int32 → fS → Option (Int32 × fS)}  (C : fC Γ p s m args meth c cX6_take (some .int) RX6 5) (hK76 : ∀ (v1 : Int32) (v3 : Int32) (σ : fS) (H : Heap) (locs : List Loc) (ls : Array Slot), K76 v1 v3 σ = some (r, σ') → fH Γ σ H → va_S (fAd Γ) s.heap H locs → lv_has ls 5 [(0, .ref (Γ.1 157)), (1, .int v1), (3, .int v3)] → W p l e ({ frames := 1, cells := 0, slots := 0, locals := 22 } : Room) s m args below meth c H locs 0 0 (MQ below (fQi Γ r σ') args s 0 0 (fAd Γ)) (F0 m 76 ls [])) : ∀ (v1 : Int32) (v3 : Int32) (σ : fS) (H : Heap) (locs : List Loc) (ls : Array Slot), f_X6_take_b116 K76 v1 v3 σ = some (r, σ') → fH Γ σ H → va_S (fAd Γ) s.heap H locs → lv_has ls 5 [(0, .ref (Γ.1 157)), (1, .int v1), (3, .int v3)] → W p l e ({ frames := 1, cells := 0, slots := 0, locals := 22 } : Room) s m args below meth c H locs 0 0 (MQ below (fQi Γ r σ') args s 0 0 (fAd Γ)) (F0 m 116 ls []) := by
  intro v1 v3 σ H locs ls hf hP hS hl
  unfold f_X6_take_b116 at hf
  refine lv_iinc (v := (v3 + (-8 : Int32))) (lv' := [(3, .int (v3 + (-8 : Int32))), (0, .ref (Γ.1 157)), (1, .int v1)]) C.1 C.2.1 (kd kX6_take_1 4 rfl) hl (k := 2) rfl rfl (Nat.le_of_ble_eq_true rfl) rfl (fun ls hl => ?_)
  refine lv_goto (tgt := 76) C.1 C.2.1 (kd kX6_take_1 5 rfl) (by decide) ?_
  exact hK76 (v1) ((v3 + (-8 : Int32))) σ H locs ls hf hP hS (lv_sub hl [1, 2, 0] rfl)
def f_X6_take_b76 : Nat → Int32 → Int32 → fS → Option (Int32 × fS)
  | 0, _, _, _ => none
  | n_ + 1, v1, v3, σ => (if v3 < 0 then some ((σ 157 0), σ) else (if (((v1.toUInt32 >>> (v3.toUInt32 &&& Int32.toUInt32 31)).toInt32) &&& (255 : Int32)) = 0 then f_X6_take_b116 (fun v1 v3 σ => f_X6_take_b76 n_ v1 v3 σ) (v1) (v3) σ else fb (σ 157 0) 60 (fL (fu σ 158 (σ 157 0).toNatClampNeg (vp_nar .char (((((v1.toUInt32 >>> (v3.toUInt32 &&& Int32.toUInt32 31)).toInt32) &&& (255 : Int32)).toUInt32 % 65536).toInt32))) (fun σ1 => fL (fu σ1 157 0 ((σ1 157 0) + (1 : Int32))) (fun σ2 => f_X6_take_b116 (fun v1 v3 σ => f_X6_take_b76 n_ v1 v3 σ) (v1) (v3) σ2)))))
set_option maxRecDepth 100000 in
set_option maxHeartbeats 4000000 in
theorem w_X6_take_b76 {r : Int32} {σ' : fS}  (C : fC Γ p s m args meth c cX6_take (some .int) RX6 5) : ∀ (n_ : Nat) (v1 : Int32) (v3 : Int32) (σ : fS) (H : Heap) (locs : List Loc) (ls : Array Slot), f_X6_take_b76 n_ v1 v3 σ = some (r, σ') → fH Γ σ H → va_S (fAd Γ) s.heap H locs → lv_has ls 5 [(0, .ref (Γ.1 157)), (1, .int v1), (3, .int v3)] → W p l e ({ frames := 1, cells := 0, slots := 0, locals := 22 } : Room) s m args below meth c H locs 0 0 (MQ below (fQi Γ r σ') args s 0 0 (fAd Γ)) (F0 m 76 ls []) := by
  intro n_
  induction n_ with
  | zero =>
    intro v1 v3 σ H locs ls hf
    cases hf
  | succ n_ ih =>
    intro v1 v3 σ H locs ls hf hP hS hl
    have hf : (if v3 < 0 then some ((σ 157 0), σ) else (if (((v1.toUInt32 >>> (v3.toUInt32 &&& Int32.toUInt32 31)).toInt32) &&& (255 : Int32)) = 0 then f_X6_take_b116 (fun v1 v3 σ => f_X6_take_b76 n_ v1 v3 σ) (v1) (v3) σ else fb (σ 157 0) 60 (fL (fu σ 158 (σ 157 0).toNatClampNeg (vp_nar .char (((((v1.toUInt32 >>> (v3.toUInt32 &&& Int32.toUInt32 31)).toInt32) &&& (255 : Int32)).toUInt32 % 65536).toInt32))) (fun σ1 => fL (fu σ1 157 0 ((σ1 157 0) + (1 : Int32))) (fun σ2 => f_X6_take_b116 (fun v1 v3 σ => f_X6_take_b76 n_ v1 v3 σ) (v1) (v3) σ2))))) = some (r, σ') := hf
    have hK76 := ih
    refine lv_iload_n C.1 C.2.1 (kd kX6_take_0 41 rfl) rfl (lv_at hl 2 rfl) ?_
    refine lv_if_lt (tgt := 122) C.1 C.2.1 (kd kX6_take_0 42 rfl) (by decide) (fun q => ?_) (fun q => ?_)
    · have hf := fif_pos q hf
      refine lv_aload_n C.1 C.2.1 (kd kX6_take_1 6 rfl) rfl (lv_at hl 0 rfl) ?_
      refine fl_get (j := 0) (v := .int (σ 157 0)) C hP rfl (Nat.le_of_ble_eq_true rfl) rfl inX6 (Nat.le_of_ble_eq_true rfl) tw_248 rfl (kd kX6_take_1 7 rfl) ?_
      exact fl_iret C hP hS hf (kd kX6_take_1 8 rfl)
    have hf := fif_neg q hf
    refine lv_iload_n C.1 C.2.1 (kd kX6_take_0 43 rfl) rfl (lv_at hl 1 rfl) ?_
    refine lv_iload_n C.1 C.2.1 (kd kX6_take_0 44 rfl) rfl (lv_at hl 2 rfl) ?_
    refine lv_iushr (v := (v1.toUInt32 >>> (v3.toUInt32 &&& Int32.toUInt32 31)).toInt32) C.1 C.2.1 (kd kX6_take_0 45 rfl) rfl ?_
    refine lv_sipush (v := (255 : Int32)) C.1 C.2.1 (kd kX6_take_0 46 rfl) (by decide) ?_
    refine lv_iand C.1 C.2.1 (kd kX6_take_0 47 rfl) ?_
    refine lv_istore (lv' := [(4, .int (((v1.toUInt32 >>> (v3.toUInt32 &&& Int32.toUInt32 31)).toInt32) &&& (255 : Int32))), (0, .ref (Γ.1 157)), (1, .int v1), (3, .int v3)]) C.1 C.2.1 (kd kX6_take_0 48 rfl) hl (Nat.le_of_ble_eq_true rfl) rfl (fun ls hl => ?_)
    refine lv_iload C.1 C.2.1 (kd kX6_take_0 49 rfl) (lv_at hl 0 rfl) ?_
    refine lv_if_eq (tgt := 116) C.1 C.2.1 (kd kX6_take_0 50 rfl) (by decide) (fun q => ?_) (fun q => ?_)
    · have hf := fif_pos q hf
      exact w_X6_take_b116 C hK76 (v1) (v3) σ H locs ls hf hP hS (lv_sub hl [1, 2, 3] rfl)
    have hf := fif_neg q hf
    refine lv_aload_n C.1 C.2.1 (kd kX6_take_0 51 rfl) rfl (lv_at hl 1 rfl) ?_
    refine fl_get (j := 2) (v := .ref (Γ.1 158)) C hP rfl (Nat.le_of_ble_eq_true rfl) rfl inX6 (Nat.le_of_ble_eq_true rfl) tw_252 rfl (kd kX6_take_0 52 rfl) ?_
    refine lv_aload_n C.1 C.2.1 (kd kX6_take_0 53 rfl) rfl (lv_at hl 1 rfl) ?_
    refine fl_get (j := 0) (v := .int (σ 157 0)) C hP rfl (Nat.le_of_ble_eq_true rfl) rfl inX6 (Nat.le_of_ble_eq_true rfl) tw_248 rfl (kd kX6_take_0 54 rfl) ?_
    refine lv_iload C.1 C.2.1 (kd kX6_take_0 55 rfl) (lv_at hl 0 rfl) ?_
    refine lv_i2c (v := ((((v1.toUInt32 >>> (v3.toUInt32 &&& Int32.toUInt32 31)).toInt32) &&& (255 : Int32)).toUInt32 % 65536).toInt32) C.1 C.2.1 (kd kX6_take_0 56 rfl) rfl ?_
    obtain ⟨hq, hf⟩ := fb_some hf
    obtain ⟨σ1, eσ1, hf⟩ := fL_some hf
    refine fl_cast C hP hS rfl hq (kd kX6_take_0 57 rfl) (fun H locs hP hS => ?_)
    have hP : fH Γ σ1 H := by rw [eσ1]; exact hP
    refine lv_aload_n C.1 C.2.1 (kd kX6_take_0 58 rfl) rfl (lv_at hl 1 rfl) ?_
    refine lv_dup C.1 C.2.1 (kd kX6_take_0 59 rfl) rfl ?_
    refine fl_get (j := 0) (v := .int (σ1 157 0)) C hP rfl (Nat.le_of_ble_eq_true rfl) rfl inX6 (Nat.le_of_ble_eq_true rfl) tw_248 rfl (kd kX6_take_1 0 rfl) ?_
    refine lv_iconst (v := (1 : Int32)) C.1 C.2.1 (kd kX6_take_1 1 rfl) (by decide) ?_
    refine lv_iadd C.1 C.2.1 (kd kX6_take_1 2 rfl) ?_
    obtain ⟨σ2, eσ2, hf⟩ := fL_some hf
    refine fl_put (j := 0) C hP hS rfl rfl (Nat.le_of_ble_eq_true rfl) rfl inX6 tyX6 tyX6_ok nmX6 (Nat.le_of_ble_eq_true rfl) tw_248 rfl rfl rfl (Nat.le_of_ble_eq_true rfl) (kd kX6_take_1 3 rfl) (fun H locs hP hS => ?_)
    have hP : fH Γ σ2 H := by rw [eσ2]; exact hP
    exact w_X6_take_b116 C hK76 (v1) (v3) σ2 H locs ls hf hP hS (lv_sub hl [1, 2, 3] rfl)
def f_X6_take_b5 : Nat → Int32 → Int32 → Int32 → fS → Option (Int32 × fS)
  | 0, _, _, _, _ => none
  | n_ + 1, v1, v2, v3, σ => (if v3 < 0 then (if ((σ 157 0) + v2) ≤ (60 : Int32) then f_X6_take_b76 fN (v1) ((24 : Int32)) σ else some ((-10003 : Int32), σ)) else (if (((v1.toUInt32 >>> (v3.toUInt32 &&& Int32.toUInt32 31)).toInt32) &&& (255 : Int32)) = 0 then f_X6_take_b39 (fun v1 v2 v3 σ => f_X6_take_b5 n_ v1 v2 v3 σ) (v1) (v2) (v3) ((((v1.toUInt32 >>> (v3.toUInt32 &&& Int32.toUInt32 31)).toInt32) &&& (255 : Int32))) σ else fcall (f_X7_isOutside (((v1.toUInt32 >>> (v3.toUInt32 &&& Int32.toUInt32 31)).toInt32) &&& (255 : Int32)) (33 : Int32) (126 : Int32) σ) (fun r1_ σ1 => (if r1_ = 0 then f_X6_take_b39 (fun v1 v2 v3 σ => f_X6_take_b5 n_ v1 v2 v3 σ) (v1) (v2) (v3) ((((v1.toUInt32 >>> (v3.toUInt32 &&& Int32.toUInt32 31)).toInt32) &&& (255 : Int32))) σ1 else some ((-10002 : Int32), σ1)))))
set_option maxRecDepth 100000 in
set_option maxHeartbeats 4000000 in
theorem w_X6_take_b5 {r : Int32} {σ' : fS}  (C : fC Γ p s m args meth c cX6_take (some .int) RX6 5) : ∀ (n_ : Nat) (v1 : Int32) (v2 : Int32) (v3 : Int32) (σ : fS) (H : Heap) (locs : List Loc) (ls : Array Slot), f_X6_take_b5 n_ v1 v2 v3 σ = some (r, σ') → fH Γ σ H → va_S (fAd Γ) s.heap H locs → lv_has ls 5 [(0, .ref (Γ.1 157)), (1, .int v1), (2, .int v2), (3, .int v3)] → W p l e ({ frames := 1, cells := 0, slots := 0, locals := 22 } : Room) s m args below meth c H locs 0 0 (MQ below (fQi Γ r σ') args s 0 0 (fAd Γ)) (F0 m 5 ls []) := by
  intro n_
  induction n_ with
  | zero =>
    intro v1 v2 v3 σ H locs ls hf
    cases hf
  | succ n_ ih =>
    intro v1 v2 v3 σ H locs ls hf hP hS hl
    have hf : (if v3 < 0 then (if ((σ 157 0) + v2) ≤ (60 : Int32) then f_X6_take_b76 fN (v1) ((24 : Int32)) σ else some ((-10003 : Int32), σ)) else (if (((v1.toUInt32 >>> (v3.toUInt32 &&& Int32.toUInt32 31)).toInt32) &&& (255 : Int32)) = 0 then f_X6_take_b39 (fun v1 v2 v3 σ => f_X6_take_b5 n_ v1 v2 v3 σ) (v1) (v2) (v3) ((((v1.toUInt32 >>> (v3.toUInt32 &&& Int32.toUInt32 31)).toInt32) &&& (255 : Int32))) σ else fcall (f_X7_isOutside (((v1.toUInt32 >>> (v3.toUInt32 &&& Int32.toUInt32 31)).toInt32) &&& (255 : Int32)) (33 : Int32) (126 : Int32) σ) (fun r1_ σ1 => (if r1_ = 0 then f_X6_take_b39 (fun v1 v2 v3 σ => f_X6_take_b5 n_ v1 v2 v3 σ) (v1) (v2) (v3) ((((v1.toUInt32 >>> (v3.toUInt32 &&& Int32.toUInt32 31)).toInt32) &&& (255 : Int32))) σ1 else some ((-10002 : Int32), σ1))))) = some (r, σ') := hf
    have hK5 := ih
    refine lv_iload_n C.1 C.2.1 (kd kX6_take_0 4 rfl) rfl (lv_at hl 3 rfl) ?_
    refine lv_if_lt (tgt := 58) C.1 C.2.1 (kd kX6_take_0 5 rfl) (by decide) (fun q => ?_) (fun q => ?_)
    · have hf := fif_pos q hf
      refine lv_aload_n C.1 C.2.1 (kd kX6_take_0 31 rfl) rfl (lv_at hl 0 rfl) ?_
      refine fl_get (j := 0) (v := .int (σ 157 0)) C hP rfl (Nat.le_of_ble_eq_true rfl) rfl inX6 (Nat.le_of_ble_eq_true rfl) tw_248 rfl (kd kX6_take_0 32 rfl) ?_
      refine lv_iload_n C.1 C.2.1 (kd kX6_take_0 33 rfl) rfl (lv_at hl 2 rfl) ?_
      refine lv_iadd C.1 C.2.1 (kd kX6_take_0 34 rfl) ?_
      refine lv_bipush (v := (60 : Int32)) C.1 C.2.1 (kd kX6_take_0 35 rfl) (by decide) ?_
      refine lv_icmp_le (tgt := 73) C.1 C.2.1 (kd kX6_take_0 36 rfl) (by decide) (fun q => ?_) (fun q => ?_)
      · have hf := fif_pos q hf
        refine lv_bipush (v := (24 : Int32)) C.1 C.2.1 (kd kX6_take_0 39 rfl) (by decide) ?_
        refine lv_istore_n (lv' := [(3, .int (24 : Int32)), (0, .ref (Γ.1 157)), (1, .int v1), (2, .int v2)]) C.1 C.2.1 (kd kX6_take_0 40 rfl) rfl hl (Nat.le_of_ble_eq_true rfl) rfl (fun ls hl => ?_)
        exact w_X6_take_b76 C fN (v1) ((24 : Int32)) σ H locs ls hf hP hS (lv_sub hl [1, 2, 0] rfl)
      have hf := fif_neg q hf
      refine lv_sipush (v := (-10003 : Int32)) C.1 C.2.1 (kd kX6_take_0 37 rfl) (by decide) ?_
      exact fl_iret C hP hS hf (kd kX6_take_0 38 rfl)
    have hf := fif_neg q hf
    refine lv_iload_n C.1 C.2.1 (kd kX6_take_0 6 rfl) rfl (lv_at hl 1 rfl) ?_
    refine lv_iload_n C.1 C.2.1 (kd kX6_take_0 7 rfl) rfl (lv_at hl 3 rfl) ?_
    refine lv_iushr (v := (v1.toUInt32 >>> (v3.toUInt32 &&& Int32.toUInt32 31)).toInt32) C.1 C.2.1 (kd kX6_take_0 8 rfl) rfl ?_
    refine lv_sipush (v := (255 : Int32)) C.1 C.2.1 (kd kX6_take_0 9 rfl) (by decide) ?_
    refine lv_iand C.1 C.2.1 (kd kX6_take_0 10 rfl) ?_
    refine lv_istore (lv' := [(4, .int (((v1.toUInt32 >>> (v3.toUInt32 &&& Int32.toUInt32 31)).toInt32) &&& (255 : Int32))), (0, .ref (Γ.1 157)), (1, .int v1), (2, .int v2), (3, .int v3)]) C.1 C.2.1 (kd kX6_take_0 11 rfl) hl (Nat.le_of_ble_eq_true rfl) rfl (fun ls hl => ?_)
    refine lv_iload C.1 C.2.1 (kd kX6_take_0 12 rfl) (lv_at hl 0 rfl) ?_
    refine lv_if_eq (tgt := 39) C.1 C.2.1 (kd kX6_take_0 13 rfl) (by decide) (fun q => ?_) (fun q => ?_)
    · have hf := fif_pos q hf
      exact w_X6_take_b39 C hK5 (v1) (v2) (v3) ((((v1.toUInt32 >>> (v3.toUInt32 &&& Int32.toUInt32 31)).toInt32) &&& (255 : Int32))) σ H locs ls hf hP hS (lv_sub hl [1, 2, 3, 4, 0] rfl)
    have hf := fif_neg q hf
    refine lv_iload C.1 C.2.1 (kd kX6_take_0 14 rfl) (lv_at hl 0 rfl) ?_
    refine lv_bipush (v := (33 : Int32)) C.1 C.2.1 (kd kX6_take_0 15 rfl) (by decide) ?_
    refine lv_bipush (v := (126 : Int32)) C.1 C.2.1 (kd kX6_take_0 16 rfl) (by decide) ?_
    obtain ⟨r1_, σ1, hσ1, hf⟩ := fcall_some hf
    refine fl_i hS (fl_runN (As := [.int (((v1.toUInt32 >>> (v3.toUInt32 &&& Int32.toUInt32 31)).toInt32) &&& (255 : Int32)), .int (33 : Int32), .int (126 : Int32)]) (rest := []) C hP (m_X7_isOutside C.2.2.2.2.2.2.2.2 l  hσ1) (fgN tw_335) C.2.2.2.2.2.2.2.1.2.2.1 tw_67 tw_334 hs_X7_isOutside ⟨rfl, rfl, Nat.le_of_ble_eq_true rfl, Nat.le_of_ble_eq_true rfl⟩ rfl hl.1 rfl (Nat.le_of_ble_eq_true rfl) (kd kX6_take_0 17 rfl)) (fun H locs hP hS => ?_)
    refine lv_if_eq (tgt := 39) C.1 C.2.1 (kd kX6_take_0 18 rfl) (by decide) (fun q => ?_) (fun q => ?_)
    · have hf := fif_pos q hf
      exact w_X6_take_b39 C hK5 (v1) (v2) (v3) ((((v1.toUInt32 >>> (v3.toUInt32 &&& Int32.toUInt32 31)).toInt32) &&& (255 : Int32))) σ1 H locs ls hf hP hS (lv_sub hl [1, 2, 3, 4, 0] rfl)
    have hf := fif_neg q hf
    refine lv_sipush (v := (-10002 : Int32)) C.1 C.2.1 (kd kX6_take_0 19 rfl) (by decide) ?_
    exact fl_iret C hP hS hf (kd kX6_take_0 20 rfl)
def f_X6_take (x1 : Int32) (σ : fS) : Option (Int32 × fS) := f_X6_take_b5 fN (x1) ((0 : Int32)) ((24 : Int32)) σ
set_option maxRecDepth 100000 in
set_option maxHeartbeats 4000000 in
theorem m_X6_take {Γ : fGm} (hI : fI Γ) (l : Launch) {x1 : Int32} {σ : fS} {r : Int32} {σ' : fS} (hf : f_X6_take x1 σ = some (r, σ')) : Met l yX6_take (.code yX6_take cX6_take 5 (some .int) :: lw_g) ({ frames := 1, cells := 0, slots := 0, locals := 22 } : Room) (fPre Γ [.ref (Γ.1 157), .int x1] σ) (fQi Γ r σ') 0 0 (fAd Γ) := by
  refine fl_enter (own := RX6) hI (by decide +kernel) rfl (Nat.le_of_ble_eq_true rfl) ?_
  intro p e s m args below meth c ls C hl hP hS
  have hl : lv_has ls 5 [(0, .ref (Γ.1 157)), (1, .int x1)] := hl
  obtain ⟨H, hH⟩ : ∃ H, H = s.heap := ⟨_, rfl⟩
  obtain ⟨locs, hL⟩ : ∃ L : List Loc, L = [] := ⟨_, rfl⟩
  have hP : fH Γ σ H := by rw [hH]; exact hP
  have hS : va_S (fAd Γ) s.heap H locs := by rw [hH, hL]; exact hS
  suffices hw : W p l e ({ frames := 1, cells := 0, slots := 0, locals := 22 } : Room) s m args below meth c H locs 0 0 (MQ below (fQi Γ r σ') args s 0 0 (fAd Γ)) (F0 m 0 ls []) by rw [hH, hL] at hw; exact hw
  unfold f_X6_take at hf
  refine lv_iconst (v := (0 : Int32)) C.1 C.2.1 (kd kX6_take_0 0 rfl) (by decide) ?_
  refine lv_istore_n (lv' := [(2, .int (0 : Int32)), (0, .ref (Γ.1 157)), (1, .int x1)]) C.1 C.2.1 (kd kX6_take_0 1 rfl) rfl hl (Nat.le_of_ble_eq_true rfl) rfl (fun ls hl => ?_)
  refine lv_bipush (v := (24 : Int32)) C.1 C.2.1 (kd kX6_take_0 2 rfl) (by decide) ?_
  refine lv_istore_n (lv' := [(3, .int (24 : Int32)), (2, .int (0 : Int32)), (0, .ref (Γ.1 157)), (1, .int x1)]) C.1 C.2.1 (kd kX6_take_0 3 rfl) rfl hl (Nat.le_of_ble_eq_true rfl) rfl (fun ls hl => ?_)
  exact w_X6_take_b5 C fN (x1) ((0 : Int32)) ((24 : Int32)) σ H locs ls hf hP hS (lv_sub hl [2, 3, 1, 0] rfl)
def f_X6_signHere (σ : fS) : Option (Int32 × fS) := (if (σ 157 0) ≤ (σ 157 4) then some ((0 : Int32), σ) else fb (σ 157 4) 60 (some ((σ 158 (σ 157 4).toNatClampNeg), σ)))
set_option maxRecDepth 100000 in
set_option maxHeartbeats 4000000 in
theorem m_X6_signHere {Γ : fGm} (hI : fI Γ) (l : Launch) {σ : fS} {r : Int32} {σ' : fS} (hf : f_X6_signHere  σ = some (r, σ')) : Met l yX6_signHere (.code yX6_signHere cX6_signHere 1 (some .int) :: lw_g) ({ frames := 0, cells := 0, slots := 0, locals := 0 } : Room) (fPre Γ [.ref (Γ.1 157)] σ) (fQi Γ r σ') 0 0 (fAd Γ) := by
  refine fl_enter (own := RX6) hI (by decide +kernel) rfl (Nat.le_of_ble_eq_true rfl) ?_
  intro p e s m args below meth c ls C hl hP hS
  have hl : lv_has ls 1 [(0, .ref (Γ.1 157))] := hl
  obtain ⟨H, hH⟩ : ∃ H, H = s.heap := ⟨_, rfl⟩
  obtain ⟨locs, hL⟩ : ∃ L : List Loc, L = [] := ⟨_, rfl⟩
  have hP : fH Γ σ H := by rw [hH]; exact hP
  have hS : va_S (fAd Γ) s.heap H locs := by rw [hH, hL]; exact hS
  suffices hw : W p l e ({ frames := 0, cells := 0, slots := 0, locals := 0 } : Room) s m args below meth c H locs 0 0 (MQ below (fQi Γ r σ') args s 0 0 (fAd Γ)) (F0 m 0 ls []) by rw [hH, hL] at hw; exact hw
  unfold f_X6_signHere at hf
  refine lv_aload_n C.1 C.2.1 (kd kX6_signHere_0 0 rfl) rfl (lv_at hl 0 rfl) ?_
  refine fl_get (j := 4) (v := .int (σ 157 4)) C hP rfl (Nat.le_of_ble_eq_true rfl) rfl inX6 (Nat.le_of_ble_eq_true rfl) tw_254 rfl (kd kX6_signHere_0 1 rfl) ?_
  refine lv_aload_n C.1 C.2.1 (kd kX6_signHere_0 2 rfl) rfl (lv_at hl 0 rfl) ?_
  refine fl_get (j := 0) (v := .int (σ 157 0)) C hP rfl (Nat.le_of_ble_eq_true rfl) rfl inX6 (Nat.le_of_ble_eq_true rfl) tw_248 rfl (kd kX6_signHere_0 3 rfl) ?_
  refine lv_icmp_ge (tgt := 23) C.1 C.2.1 (kd kX6_signHere_0 4 rfl) (by decide) (fun q => ?_) (fun q => ?_)
  · have hf := fif_pos q hf
    refine lv_iconst (v := (0 : Int32)) C.1 C.2.1 (kd kX6_signHere_0 11 rfl) (by decide) ?_
    exact fl_iret C hP hS hf (kd kX6_signHere_0 12 rfl)
  have hf := fif_neg q hf
  refine lv_aload_n C.1 C.2.1 (kd kX6_signHere_0 5 rfl) rfl (lv_at hl 0 rfl) ?_
  refine fl_get (j := 2) (v := .ref (Γ.1 158)) C hP rfl (Nat.le_of_ble_eq_true rfl) rfl inX6 (Nat.le_of_ble_eq_true rfl) tw_252 rfl (kd kX6_signHere_0 6 rfl) ?_
  refine lv_aload_n C.1 C.2.1 (kd kX6_signHere_0 7 rfl) rfl (lv_at hl 0 rfl) ?_
  refine fl_get (j := 4) (v := .int (σ 157 4)) C hP rfl (Nat.le_of_ble_eq_true rfl) rfl inX6 (Nat.le_of_ble_eq_true rfl) tw_254 rfl (kd kX6_signHere_0 8 rfl) ?_
  obtain ⟨hq, hf⟩ := fb_some hf
  refine fl_cald C hP rfl hq (kd kX6_signHere_0 9 rfl) ?_
  refine lv_goto (tgt := 24) C.1 C.2.1 (kd kX6_signHere_0 10 rfl) (by decide) ?_
  exact fl_iret C hP hS hf (kd kX6_signHere_0 12 rfl)
def f_X6_countNumbers (x0 : Int32) (σ : fS) : Option (Int32 × fS) := (if x0 = (99 : Int32) then some ((4 : Int32), σ) else if x0 = (116 : Int32) then some ((2 : Int32), σ) else if x0 = (118 : Int32) then some ((3 : Int32), σ) else if x0 = (119 : Int32) then some ((2 : Int32), σ) else some ((0 : Int32), σ))
set_option maxRecDepth 100000 in
set_option maxHeartbeats 4000000 in
theorem m_X6_countNumbers {Γ : fGm} (hI : fI Γ) (l : Launch) {x0 : Int32} {σ : fS} {r : Int32} {σ' : fS} (hf : f_X6_countNumbers x0 σ = some (r, σ')) : Met l yX6_countNumbers (.code yX6_countNumbers cX6_countNumbers 1 (some .int) :: lw_g) ({ frames := 0, cells := 0, slots := 0, locals := 0 } : Room) (fPre Γ [.int x0] σ) (fQi Γ r σ') 0 0 (fAd Γ) := by
  refine fl_enter (own := RX6) hI (by decide +kernel) rfl (Nat.le_of_ble_eq_true rfl) ?_
  intro p e s m args below meth c ls C hl hP hS
  have hl : lv_has ls 1 [(0, .int x0)] := hl
  obtain ⟨H, hH⟩ : ∃ H, H = s.heap := ⟨_, rfl⟩
  obtain ⟨locs, hL⟩ : ∃ L : List Loc, L = [] := ⟨_, rfl⟩
  have hP : fH Γ σ H := by rw [hH]; exact hP
  have hS : va_S (fAd Γ) s.heap H locs := by rw [hH, hL]; exact hS
  suffices hw : W p l e ({ frames := 0, cells := 0, slots := 0, locals := 0 } : Room) s m args below meth c H locs 0 0 (MQ below (fQi Γ r σ') args s 0 0 (fAd Γ)) (F0 m 0 ls []) by rw [hH, hL] at hw; exact hw
  unfold f_X6_countNumbers at hf
  refine lv_iload_n C.1 C.2.1 (kd kX6_countNumbers_0 0 rfl) rfl (lv_at hl 0 rfl) ?_
  by_cases q0 : x0 = (99 : Int32)
  · have hf := fif_pos q0 hf
    refine lv_lookup (tgt := 44) C.1 C.2.1 (kd kX6_countNumbers_0 1 rfl) (by decide) (by rw [q0] <;> rfl) (by decide) ?_
    refine lv_iconst (v := (4 : Int32)) C.1 C.2.1 (kd kX6_countNumbers_0 2 rfl) (by decide) ?_
    exact fl_iret C hP hS hf (kd kX6_countNumbers_0 3 rfl)
  have hf := fif_neg q0 hf
  have z0 : ¬ x0.toInt = 99 := fi_ne q0 (by decide)
  by_cases q1 : x0 = (116 : Int32)
  · have hf := fif_pos q1 hf
    refine lv_lookup (tgt := 48) C.1 C.2.1 (kd kX6_countNumbers_0 1 rfl) (by decide) (by rw [q1] <;> rfl) (by decide) ?_
    refine lv_iconst (v := (2 : Int32)) C.1 C.2.1 (kd kX6_countNumbers_0 6 rfl) (by decide) ?_
    exact fl_iret C hP hS hf (kd kX6_countNumbers_0 7 rfl)
  have hf := fif_neg q1 hf
  have z1 : ¬ x0.toInt = 116 := fi_ne q1 (by decide)
  by_cases q2 : x0 = (118 : Int32)
  · have hf := fif_pos q2 hf
    refine lv_lookup (tgt := 46) C.1 C.2.1 (kd kX6_countNumbers_0 1 rfl) (by decide) (by rw [q2] <;> rfl) (by decide) ?_
    refine lv_iconst (v := (3 : Int32)) C.1 C.2.1 (kd kX6_countNumbers_0 4 rfl) (by decide) ?_
    exact fl_iret C hP hS hf (kd kX6_countNumbers_0 5 rfl)
  have hf := fif_neg q2 hf
  have z2 : ¬ x0.toInt = 118 := fi_ne q2 (by decide)
  by_cases q3 : x0 = (119 : Int32)
  · have hf := fif_pos q3 hf
    refine lv_lookup (tgt := 50) C.1 C.2.1 (kd kX6_countNumbers_0 1 rfl) (by decide) (by rw [q3] <;> rfl) (by decide) ?_
    refine lv_iconst (v := (2 : Int32)) C.1 C.2.1 (kd kX6_countNumbers_0 8 rfl) (by decide) ?_
    exact fl_iret C hP hS hf (kd kX6_countNumbers_0 9 rfl)
  have hf := fif_neg q3 hf
  have z3 : ¬ x0.toInt = 119 := fi_ne q3 (by decide)
  refine lv_lookup (tgt := 52) C.1 C.2.1 (kd kX6_countNumbers_0 1 rfl) (by decide) (by show Op.lookupswitch.offset [(99, 43), (116, 47), (118, 45), (119, 49)] 51 _ = 51; rw [Op.lookupswitch.offset_cons, if_neg (fun z => z0 z.symm), Op.lookupswitch.offset_cons, if_neg (fun z => z1 z.symm), Op.lookupswitch.offset_cons, if_neg (fun z => z2 z.symm), Op.lookupswitch.offset_cons, if_neg (fun z => z3 z.symm), Op.lookupswitch.offset_nil]) (by decide) ?_
  refine lv_iconst (v := (0 : Int32)) C.1 C.2.1 (kd kX6_countNumbers_0 10 rfl) (by decide) ?_
  exact fl_iret C hP hS hf (kd kX6_countNumbers_0 11 rfl)
def f_X6_passes (x1 : Int32) (σ : fS) : Option (Int32 × fS) := fcall (f_X6_signHere σ) (fun r1_ σ1 => (if r1_ = x1 then fL (fu σ1 157 4 ((σ1 157 4) + (1 : Int32))) (fun σ2 => some ((1 : Int32), σ2)) else some ((0 : Int32), σ1)))
set_option maxRecDepth 100000 in
set_option maxHeartbeats 4000000 in
theorem m_X6_passes {Γ : fGm} (hI : fI Γ) (l : Launch) {x1 : Int32} {σ : fS} {r : Int32} {σ' : fS} (hf : f_X6_passes x1 σ = some (r, σ')) : Met l yX6_passes (.code yX6_passes cX6_passes 2 (some .boolean) :: lw_g) ({ frames := 1, cells := 0, slots := 0, locals := 20 } : Room) (fPre Γ [.ref (Γ.1 157), .int x1] σ) (fQi Γ r σ') 0 0 (fAd Γ) := by
  refine fl_enter (own := RX6) hI (by decide +kernel) rfl (Nat.le_of_ble_eq_true rfl) ?_
  intro p e s m args below meth c ls C hl hP hS
  have hl : lv_has ls 2 [(0, .ref (Γ.1 157)), (1, .int x1)] := hl
  obtain ⟨H, hH⟩ : ∃ H, H = s.heap := ⟨_, rfl⟩
  obtain ⟨locs, hL⟩ : ∃ L : List Loc, L = [] := ⟨_, rfl⟩
  have hP : fH Γ σ H := by rw [hH]; exact hP
  have hS : va_S (fAd Γ) s.heap H locs := by rw [hH, hL]; exact hS
  suffices hw : W p l e ({ frames := 1, cells := 0, slots := 0, locals := 20 } : Room) s m args below meth c H locs 0 0 (MQ below (fQi Γ r σ') args s 0 0 (fAd Γ)) (F0 m 0 ls []) by rw [hH, hL] at hw; exact hw
  unfold f_X6_passes at hf
  refine lv_aload_n C.1 C.2.1 (kd kX6_passes_0 0 rfl) rfl (lv_at hl 0 rfl) ?_
  obtain ⟨r1_, σ1, hσ1, hf⟩ := fcall_some hf
  refine fl_i hS (fl_runV (As := []) (rest := []) C hP rfl (Nat.le_of_ble_eq_true rfl) rfl (m_X6_signHere C.2.2.2.2.2.2.2.2 l  hσ1) (fgV tw_483 tw_485 tw_3 tw_73 tw_486) hd_X6_signHere ⟨rfl, rfl, Nat.le_of_ble_eq_true rfl, Nat.le_of_ble_eq_true rfl⟩ rfl hl.1 rfl (Nat.le_of_ble_eq_true rfl) (kd kX6_passes_0 1 rfl)) (fun H locs hP hS => ?_)
  refine lv_iload_n C.1 C.2.1 (kd kX6_passes_0 2 rfl) rfl (lv_at hl 1 rfl) ?_
  refine lv_icmp_eq (tgt := 10) C.1 C.2.1 (kd kX6_passes_0 3 rfl) (by decide) (fun q => ?_) (fun q => ?_)
  · have hf := fif_pos q hf
    refine lv_aload_n C.1 C.2.1 (kd kX6_passes_0 6 rfl) rfl (lv_at hl 0 rfl) ?_
    refine lv_dup C.1 C.2.1 (kd kX6_passes_0 7 rfl) rfl ?_
    refine fl_get (j := 4) (v := .int (σ1 157 4)) C hP rfl (Nat.le_of_ble_eq_true rfl) rfl inX6 (Nat.le_of_ble_eq_true rfl) tw_254 rfl (kd kX6_passes_0 8 rfl) ?_
    refine lv_iconst (v := (1 : Int32)) C.1 C.2.1 (kd kX6_passes_0 9 rfl) (by decide) ?_
    refine lv_iadd C.1 C.2.1 (kd kX6_passes_0 10 rfl) ?_
    obtain ⟨σ2, eσ2, hf⟩ := fL_some hf
    refine fl_put (j := 4) C hP hS rfl rfl (Nat.le_of_ble_eq_true rfl) rfl inX6 tyX6 tyX6_ok nmX6 (Nat.le_of_ble_eq_true rfl) tw_254 rfl rfl rfl (Nat.le_of_ble_eq_true rfl) (kd kX6_passes_0 11 rfl) (fun H locs hP hS => ?_)
    have hP : fH Γ σ2 H := by rw [eσ2]; exact hP
    refine lv_iconst (v := (1 : Int32)) C.1 C.2.1 (kd kX6_passes_0 12 rfl) (by decide) ?_
    exact fl_zret C hP hS rfl hf (kd kX6_passes_0 13 rfl)
  have hf := fif_neg q hf
  refine lv_iconst (v := (0 : Int32)) C.1 C.2.1 (kd kX6_passes_0 4 rfl) (by decide) ?_
  exact fl_zret C hP hS rfl hf (kd kX6_passes_0 5 rfl)
def f_X6_findNumber_b57 (v1 : Int32) (v2 : Int32) (v3 : Int32) (v4 : Int32) (v5 : Int32) (σ : fS) : Option (Int32 × fS) := fcallv (f_X5_put 159 12 6 v1 v2 (v3 * v4) σ) (fun σ1 => (if v5 ≤ 0 then some ((0 : Int32), σ1) else some ((1 : Int32), σ1)))
set_option maxRecDepth 100000 in
set_option maxHeartbeats 4000000 in
theorem w_X6_findNumber_b57 {r : Int32} {σ' : fS}  (C : fC Γ p s m args meth c cX6_findNumber (some .boolean) RX6 6) : ∀ (v1 : Int32) (v2 : Int32) (v3 : Int32) (v4 : Int32) (v5 : Int32) (σ : fS) (H : Heap) (locs : List Loc) (ls : Array Slot), f_X6_findNumber_b57 v1 v2 v3 v4 v5 σ = some (r, σ') → fH Γ σ H → va_S (fAd Γ) s.heap H locs → lv_has ls 6 [(0, .ref (Γ.1 157)), (1, .int v1), (2, .int v2), (3, .int v3), (4, .int v4), (5, .int v5)] → W p l e ({ frames := 1, cells := 0, slots := 0, locals := 23 } : Room) s m args below meth c H locs 0 0 (MQ below (fQi Γ r σ') args s 0 0 (fAd Γ)) (F0 m 57 ls []) := by
  intro v1 v2 v3 v4 v5 σ H locs ls hf hP hS hl
  unfold f_X6_findNumber_b57 at hf
  refine lv_aload_n C.1 C.2.1 (kd kX6_findNumber_0 30 rfl) rfl (lv_at hl 0 rfl) ?_
  refine fl_get (j := 3) (v := .ref (Γ.1 159)) C hP rfl (Nat.le_of_ble_eq_true rfl) rfl inX6 (Nat.le_of_ble_eq_true rfl) tw_253 rfl (kd kX6_findNumber_0 31 rfl) ?_
  refine lv_iload_n C.1 C.2.1 (kd kX6_findNumber_0 32 rfl) rfl (lv_at hl 1 rfl) ?_
  refine lv_iload_n C.1 C.2.1 (kd kX6_findNumber_0 33 rfl) rfl (lv_at hl 2 rfl) ?_
  refine lv_iload_n C.1 C.2.1 (kd kX6_findNumber_0 34 rfl) rfl (lv_at hl 3 rfl) ?_
  refine lv_iload C.1 C.2.1 (kd kX6_findNumber_0 35 rfl) (lv_at hl 4 rfl) ?_
  refine lv_imul C.1 C.2.1 (kd kX6_findNumber_0 36 rfl) ?_
  obtain ⟨σ1, hσ1, hf⟩ := fcallv_some hf
  refine fl_v hS (fl_runV (As := [.int v1, .int v2, .int (v3 * v4)]) (rest := []) C hP rfl (Nat.le_of_ble_eq_true rfl) rfl (m_X5_put C.2.2.2.2.2.2.2.2 l rfl hσ1) (fgV tw_491 tw_276 tw_277 tw_69 tw_278) hd_X5_put ⟨rfl, rfl, Nat.le_of_ble_eq_true rfl, Nat.le_of_ble_eq_true rfl⟩ rfl hl.1 rfl (Nat.le_of_ble_eq_true rfl) (kd kX6_findNumber_0 37 rfl)) (fun H locs hP hS => ?_)
  refine lv_iload C.1 C.2.1 (kd kX6_findNumber_0 38 rfl) (lv_at hl 5 rfl) ?_
  refine lv_if_le (tgt := 79) C.1 C.2.1 (kd kX6_findNumber_0 39 rfl) (by decide) (fun q => ?_) (fun q => ?_)
  · have hf := fif_pos q hf
    refine lv_iconst (v := (0 : Int32)) C.1 C.2.1 (kd kX6_findNumber_0 42 rfl) (by decide) ?_
    exact fl_zret C hP hS rfl hf (kd kX6_findNumber_0 43 rfl)
  have hf := fif_neg q hf
  refine lv_iconst (v := (1 : Int32)) C.1 C.2.1 (kd kX6_findNumber_0 40 rfl) (by decide) ?_
  refine lv_goto (tgt := 80) C.1 C.2.1 (kd kX6_findNumber_0 41 rfl) (by decide) ?_
  exact fl_zret C hP hS rfl hf (kd kX6_findNumber_0 43 rfl)
def f_X6_findNumber_b6 : Nat → Int32 → Int32 → Int32 → Int32 → Int32 → fS → Option (Int32 × fS)
  | 0, _, _, _, _, _, _ => none
  | n_ + 1, v1, v2, v3, v4, v5, σ => (if (4 : Int32) ≤ v5 then f_X6_findNumber_b57 (v1) (v2) (v3) (v4) (v5) σ else fcall (f_X6_signHere σ) (fun r1_ σ1 => fcall (f_X7_isOutside r1_ (48 : Int32) (57 : Int32) σ1) (fun r2_ σ2 => (if r2_ = 0 then fcall (f_X6_signHere σ2) (fun r3_ σ3 => fL (fu σ3 157 4 ((σ3 157 4) + (1 : Int32))) (fun σ4 => (fun v1 v2 v3 v4 v5 σ => f_X6_findNumber_b6 n_ v1 v2 v3 v4 v5 σ) (v1) (v2) (v3) ((((v4 * (10 : Int32)) + r3_) - (48 : Int32))) ((v5 + (1 : Int32))) σ4)) else f_X6_findNumber_b57 (v1) (v2) (v3) (v4) (v5) σ2))))
set_option maxRecDepth 100000 in
set_option maxHeartbeats 4000000 in
theorem w_X6_findNumber_b6 {r : Int32} {σ' : fS}  (C : fC Γ p s m args meth c cX6_findNumber (some .boolean) RX6 6) : ∀ (n_ : Nat) (v1 : Int32) (v2 : Int32) (v3 : Int32) (v4 : Int32) (v5 : Int32) (σ : fS) (H : Heap) (locs : List Loc) (ls : Array Slot), f_X6_findNumber_b6 n_ v1 v2 v3 v4 v5 σ = some (r, σ') → fH Γ σ H → va_S (fAd Γ) s.heap H locs → lv_has ls 6 [(0, .ref (Γ.1 157)), (1, .int v1), (2, .int v2), (3, .int v3), (4, .int v4), (5, .int v5)] → W p l e ({ frames := 1, cells := 0, slots := 0, locals := 23 } : Room) s m args below meth c H locs 0 0 (MQ below (fQi Γ r σ') args s 0 0 (fAd Γ)) (F0 m 6 ls []) := by
  intro n_
  induction n_ with
  | zero =>
    intro v1 v2 v3 v4 v5 σ H locs ls hf
    cases hf
  | succ n_ ih =>
    intro v1 v2 v3 v4 v5 σ H locs ls hf hP hS hl
    have hf : (if (4 : Int32) ≤ v5 then f_X6_findNumber_b57 (v1) (v2) (v3) (v4) (v5) σ else fcall (f_X6_signHere σ) (fun r1_ σ1 => fcall (f_X7_isOutside r1_ (48 : Int32) (57 : Int32) σ1) (fun r2_ σ2 => (if r2_ = 0 then fcall (f_X6_signHere σ2) (fun r3_ σ3 => fL (fu σ3 157 4 ((σ3 157 4) + (1 : Int32))) (fun σ4 => (fun v1 v2 v3 v4 v5 σ => f_X6_findNumber_b6 n_ v1 v2 v3 v4 v5 σ) (v1) (v2) (v3) ((((v4 * (10 : Int32)) + r3_) - (48 : Int32))) ((v5 + (1 : Int32))) σ4)) else f_X6_findNumber_b57 (v1) (v2) (v3) (v4) (v5) σ2)))) = some (r, σ') := hf
    have hK6 := ih
    refine lv_iload C.1 C.2.1 (kd kX6_findNumber_0 4 rfl) (lv_at hl 5 rfl) ?_
    refine lv_iconst (v := (4 : Int32)) C.1 C.2.1 (kd kX6_findNumber_0 5 rfl) (by decide) ?_
    refine lv_icmp_ge (tgt := 57) C.1 C.2.1 (kd kX6_findNumber_0 6 rfl) (by decide) (fun q => ?_) (fun q => ?_)
    · have hf := fif_pos q hf
      exact w_X6_findNumber_b57 C (v1) (v2) (v3) (v4) (v5) σ H locs ls hf hP hS (lv_sub hl [0, 1, 2, 3, 4, 5] rfl)
    have hf := fif_neg q hf
    refine lv_aload_n C.1 C.2.1 (kd kX6_findNumber_0 7 rfl) rfl (lv_at hl 0 rfl) ?_
    obtain ⟨r1_, σ1, hσ1, hf⟩ := fcall_some hf
    refine fl_i hS (fl_runV (As := []) (rest := []) C hP rfl (Nat.le_of_ble_eq_true rfl) rfl (m_X6_signHere C.2.2.2.2.2.2.2.2 l  hσ1) (fgV tw_483 tw_485 tw_3 tw_73 tw_486) hd_X6_signHere ⟨rfl, rfl, Nat.le_of_ble_eq_true rfl, Nat.le_of_ble_eq_true rfl⟩ rfl hl.1 rfl (Nat.le_of_ble_eq_true rfl) (kd kX6_findNumber_0 8 rfl)) (fun H locs hP hS => ?_)
    refine lv_bipush (v := (48 : Int32)) C.1 C.2.1 (kd kX6_findNumber_0 9 rfl) (by decide) ?_
    refine lv_bipush (v := (57 : Int32)) C.1 C.2.1 (kd kX6_findNumber_0 10 rfl) (by decide) ?_
    obtain ⟨r2_, σ2, hσ2, hf⟩ := fcall_some hf
    refine fl_i hS (fl_runN (As := [.int r1_, .int (48 : Int32), .int (57 : Int32)]) (rest := []) C hP (m_X7_isOutside C.2.2.2.2.2.2.2.2 l  hσ2) (fgN tw_335) C.2.2.2.2.2.2.2.1.2.2.1 tw_67 tw_334 hs_X7_isOutside ⟨rfl, rfl, Nat.le_of_ble_eq_true rfl, Nat.le_of_ble_eq_true rfl⟩ rfl hl.1 rfl (Nat.le_of_ble_eq_true rfl) (kd kX6_findNumber_0 11 rfl)) (fun H locs hP hS => ?_)
    refine lv_if_ne (tgt := 57) C.1 C.2.1 (kd kX6_findNumber_0 12 rfl) (by decide) (fun q => ?_) (fun q => ?_)
    · have hf := fif_neg q hf
      exact w_X6_findNumber_b57 C (v1) (v2) (v3) (v4) (v5) σ2 H locs ls hf hP hS (lv_sub hl [0, 1, 2, 3, 4, 5] rfl)
    have hf := fif_pos q hf
    refine lv_iload C.1 C.2.1 (kd kX6_findNumber_0 13 rfl) (lv_at hl 4 rfl) ?_
    refine lv_bipush (v := (10 : Int32)) C.1 C.2.1 (kd kX6_findNumber_0 14 rfl) (by decide) ?_
    refine lv_imul C.1 C.2.1 (kd kX6_findNumber_0 15 rfl) ?_
    refine lv_aload_n C.1 C.2.1 (kd kX6_findNumber_0 16 rfl) rfl (lv_at hl 0 rfl) ?_
    obtain ⟨r3_, σ3, hσ3, hf⟩ := fcall_some hf
    refine fl_i hS (fl_runV (As := []) (rest := [.int (v4 * (10 : Int32))]) C hP rfl (Nat.le_of_ble_eq_true rfl) rfl (m_X6_signHere C.2.2.2.2.2.2.2.2 l  hσ3) (fgV tw_483 tw_485 tw_3 tw_73 tw_486) hd_X6_signHere ⟨rfl, rfl, Nat.le_of_ble_eq_true rfl, Nat.le_of_ble_eq_true rfl⟩ rfl hl.1 rfl (Nat.le_of_ble_eq_true rfl) (kd kX6_findNumber_0 17 rfl)) (fun H locs hP hS => ?_)
    refine lv_iadd C.1 C.2.1 (kd kX6_findNumber_0 18 rfl) ?_
    refine lv_bipush (v := (48 : Int32)) C.1 C.2.1 (kd kX6_findNumber_0 19 rfl) (by decide) ?_
    refine lv_isub C.1 C.2.1 (kd kX6_findNumber_0 20 rfl) ?_
    refine lv_istore (lv' := [(4, .int (((v4 * (10 : Int32)) + r3_) - (48 : Int32))), (0, .ref (Γ.1 157)), (1, .int v1), (2, .int v2), (3, .int v3), (5, .int v5)]) C.1 C.2.1 (kd kX6_findNumber_0 21 rfl) hl (Nat.le_of_ble_eq_true rfl) rfl (fun ls hl => ?_)
    refine lv_iinc (v := (v5 + (1 : Int32))) (lv' := [(5, .int (v5 + (1 : Int32))), (4, .int (((v4 * (10 : Int32)) + r3_) - (48 : Int32))), (0, .ref (Γ.1 157)), (1, .int v1), (2, .int v2), (3, .int v3)]) C.1 C.2.1 (kd kX6_findNumber_0 22 rfl) hl (k := 5) rfl rfl (Nat.le_of_ble_eq_true rfl) rfl (fun ls hl => ?_)
    refine lv_aload_n C.1 C.2.1 (kd kX6_findNumber_0 23 rfl) rfl (lv_at hl 2 rfl) ?_
    refine lv_dup C.1 C.2.1 (kd kX6_findNumber_0 24 rfl) rfl ?_
    refine fl_get (j := 4) (v := .int (σ3 157 4)) C hP rfl (Nat.le_of_ble_eq_true rfl) rfl inX6 (Nat.le_of_ble_eq_true rfl) tw_254 rfl (kd kX6_findNumber_0 25 rfl) ?_
    refine lv_iconst (v := (1 : Int32)) C.1 C.2.1 (kd kX6_findNumber_0 26 rfl) (by decide) ?_
    refine lv_iadd C.1 C.2.1 (kd kX6_findNumber_0 27 rfl) ?_
    obtain ⟨σ4, eσ4, hf⟩ := fL_some hf
    refine fl_put (j := 4) C hP hS rfl rfl (Nat.le_of_ble_eq_true rfl) rfl inX6 tyX6 tyX6_ok nmX6 (Nat.le_of_ble_eq_true rfl) tw_254 rfl rfl rfl (Nat.le_of_ble_eq_true rfl) (kd kX6_findNumber_0 28 rfl) (fun H locs hP hS => ?_)
    have hP : fH Γ σ4 H := by rw [eσ4]; exact hP
    refine lv_goto (tgt := 6) C.1 C.2.1 (kd kX6_findNumber_0 29 rfl) (by decide) ?_
    exact hK6 (v1) (v2) (v3) ((((v4 * (10 : Int32)) + r3_) - (48 : Int32))) ((v5 + (1 : Int32))) σ4 H locs ls hf hP hS (lv_sub hl [2, 3, 4, 5, 1, 0] rfl)
def f_X6_findNumber (x1 : Int32) (x2 : Int32) (x3 : Int32) (σ : fS) : Option (Int32 × fS) := f_X6_findNumber_b6 fN (x1) (x2) (x3) ((0 : Int32)) ((0 : Int32)) σ
set_option maxRecDepth 100000 in
set_option maxHeartbeats 4000000 in
theorem m_X6_findNumber {Γ : fGm} (hI : fI Γ) (l : Launch) {x1 : Int32} {x2 : Int32} {x3 : Int32} {σ : fS} {r : Int32} {σ' : fS} (hf : f_X6_findNumber x1 x2 x3 σ = some (r, σ')) : Met l yX6_findNumber (.code yX6_findNumber cX6_findNumber 6 (some .boolean) :: lw_g) ({ frames := 1, cells := 0, slots := 0, locals := 23 } : Room) (fPre Γ [.ref (Γ.1 157), .int x1, .int x2, .int x3] σ) (fQi Γ r σ') 0 0 (fAd Γ) := by
  refine fl_enter (own := RX6) hI (by decide +kernel) rfl (Nat.le_of_ble_eq_true rfl) ?_
  intro p e s m args below meth c ls C hl hP hS
  have hl : lv_has ls 6 [(0, .ref (Γ.1 157)), (1, .int x1), (2, .int x2), (3, .int x3)] := hl
  obtain ⟨H, hH⟩ : ∃ H, H = s.heap := ⟨_, rfl⟩
  obtain ⟨locs, hL⟩ : ∃ L : List Loc, L = [] := ⟨_, rfl⟩
  have hP : fH Γ σ H := by rw [hH]; exact hP
  have hS : va_S (fAd Γ) s.heap H locs := by rw [hH, hL]; exact hS
  suffices hw : W p l e ({ frames := 1, cells := 0, slots := 0, locals := 23 } : Room) s m args below meth c H locs 0 0 (MQ below (fQi Γ r σ') args s 0 0 (fAd Γ)) (F0 m 0 ls []) by rw [hH, hL] at hw; exact hw
  unfold f_X6_findNumber at hf
  refine lv_iconst (v := (0 : Int32)) C.1 C.2.1 (kd kX6_findNumber_0 0 rfl) (by decide) ?_
  refine lv_istore (lv' := [(4, .int (0 : Int32)), (0, .ref (Γ.1 157)), (1, .int x1), (2, .int x2), (3, .int x3)]) C.1 C.2.1 (kd kX6_findNumber_0 1 rfl) hl (Nat.le_of_ble_eq_true rfl) rfl (fun ls hl => ?_)
  refine lv_iconst (v := (0 : Int32)) C.1 C.2.1 (kd kX6_findNumber_0 2 rfl) (by decide) ?_
  refine lv_istore (lv' := [(5, .int (0 : Int32)), (4, .int (0 : Int32)), (0, .ref (Γ.1 157)), (1, .int x1), (2, .int x2), (3, .int x3)]) C.1 C.2.1 (kd kX6_findNumber_0 3 rfl) hl (Nat.le_of_ble_eq_true rfl) rfl (fun ls hl => ?_)
  exact w_X6_findNumber_b6 C fN (x1) (x2) (x3) ((0 : Int32)) ((0 : Int32)) σ H locs ls hf hP hS (lv_sub hl [2, 3, 4, 5, 1, 0] rfl)
def f_X6_findEntry_b144 (K69 : Int32 → Int32 → Int32 → Int32 → fS → Option (Int32 × fS)) (v2 : Int32) (v3 : Int32) (v4 : Int32) (v5 : Int32) (s0 : Int32) (s1 : Int32) (s2 : Int32) (σ : fS) : Option (Int32 × fS) := fcall (f_X6_findNumber s2 s1 s0 σ) (fun r1_ σ1 => (if r1_ = 0 then some ((0 : Int32), σ1) else K69 (v2) (v3) (v4) ((v5 + (1 : Int32))) σ1))
set_option maxRecDepth 100000 in
set_option maxHeartbeats 4000000 in
theorem w_X6_findEntry_b144 {r : Int32} {σ' : fS} {K69 : Int32 → Int32 → Int32 → Int32 → fS → Option (Int32 × fS)}  (C : fC Γ p s m args meth c cX6_findEntry (some .boolean) RX6 7) (hK69 : ∀ (v2 : Int32) (v3 : Int32) (v4 : Int32) (v5 : Int32) (σ : fS) (H : Heap) (locs : List Loc) (ls : Array Slot), K69 v2 v3 v4 v5 σ = some (r, σ') → fH Γ σ H → va_S (fAd Γ) s.heap H locs → lv_has ls 7 [(0, .ref (Γ.1 157)), (2, .int v2), (3, .int v3), (4, .int v4), (5, .int v5)] → W p l e ({ frames := 2, cells := 0, slots := 0, locals := 48 } : Room) s m args below meth c H locs 0 0 (MQ below (fQi Γ r σ') args s 0 0 (fAd Γ)) (F0 m 69 ls [])) : ∀ (v2 : Int32) (v3 : Int32) (v4 : Int32) (v5 : Int32) (s0 : Int32) (s1 : Int32) (s2 : Int32) (σ : fS) (H : Heap) (locs : List Loc) (ls : Array Slot), f_X6_findEntry_b144 K69 v2 v3 v4 v5 s0 s1 s2 σ = some (r, σ') → fH Γ σ H → va_S (fAd Γ) s.heap H locs → lv_has ls 7 [(0, .ref (Γ.1 157)), (2, .int v2), (3, .int v3), (4, .int v4), (5, .int v5)] → W p l e ({ frames := 2, cells := 0, slots := 0, locals := 48 } : Room) s m args below meth c H locs 0 0 (MQ below (fQi Γ r σ') args s 0 0 (fAd Γ)) (F0 m 144 ls [.int s0, .int s1, .int s2, .ref (Γ.1 157)]) := by
  intro v2 v3 v4 v5 s0 s1 s2 σ H locs ls hf hP hS hl
  unfold f_X6_findEntry_b144 at hf
  obtain ⟨r1_, σ1, hσ1, hf⟩ := fcall_some hf
  refine fl_i hS (fl_runV (As := [.int s2, .int s1, .int s0]) (rest := []) C hP rfl (Nat.le_of_ble_eq_true rfl) rfl (m_X6_findNumber C.2.2.2.2.2.2.2.2 l  hσ1) (fgV tw_496 tw_498 tw_5 tw_73 tw_499) hd_X6_findNumber ⟨rfl, rfl, Nat.le_of_ble_eq_true rfl, Nat.le_of_ble_eq_true rfl⟩ rfl hl.1 rfl (Nat.le_of_ble_eq_true rfl) (kd kX6_findEntry_1 19 rfl)) (fun H locs hP hS => ?_)
  refine lv_if_ne (tgt := 152) C.1 C.2.1 (kd kX6_findEntry_1 20 rfl) (by decide) (fun q => ?_) (fun q => ?_)
  · have hf := fif_neg q hf
    refine lv_iinc (v := (v5 + (1 : Int32))) (lv' := [(5, .int (v5 + (1 : Int32))), (0, .ref (Γ.1 157)), (2, .int v2), (3, .int v3), (4, .int v4)]) C.1 C.2.1 (kd kX6_findEntry_1 23 rfl) hl (k := 4) rfl rfl (Nat.le_of_ble_eq_true rfl) rfl (fun ls hl => ?_)
    refine lv_goto (tgt := 69) C.1 C.2.1 (kd kX6_findEntry_1 24 rfl) (by decide) ?_
    exact hK69 (v2) (v3) (v4) ((v5 + (1 : Int32))) σ1 H locs ls hf hP hS (lv_sub hl [1, 2, 3, 4, 0] rfl)
  have hf := fif_pos q hf
  refine lv_iconst (v := (0 : Int32)) C.1 C.2.1 (kd kX6_findEntry_1 21 rfl) (by decide) ?_
  exact fl_zret C hP hS rfl hf (kd kX6_findEntry_1 22 rfl)
def f_X6_findEntry_b127 (K69 : Int32 → Int32 → Int32 → Int32 → fS → Option (Int32 × fS)) (v2 : Int32) (v3 : Int32) (v4 : Int32) (v5 : Int32) (s0 : Int32) (σ : fS) : Option (Int32 × fS) := (if s0 = 0 then f_X6_findEntry_b144 K69 (v2) (v3) (v4) (v5) ((1 : Int32)) (v5) (v4) σ else f_X6_findEntry_b144 K69 (v2) (v3) (v4) (v5) ((-1 : Int32)) (v5) (v4) σ)
set_option maxRecDepth 100000 in
set_option maxHeartbeats 4000000 in
theorem w_X6_findEntry_b127 {r : Int32} {σ' : fS} {K69 : Int32 → Int32 → Int32 → Int32 → fS → Option (Int32 × fS)}  (C : fC Γ p s m args meth c cX6_findEntry (some .boolean) RX6 7) (hK69 : ∀ (v2 : Int32) (v3 : Int32) (v4 : Int32) (v5 : Int32) (σ : fS) (H : Heap) (locs : List Loc) (ls : Array Slot), K69 v2 v3 v4 v5 σ = some (r, σ') → fH Γ σ H → va_S (fAd Γ) s.heap H locs → lv_has ls 7 [(0, .ref (Γ.1 157)), (2, .int v2), (3, .int v3), (4, .int v4), (5, .int v5)] → W p l e ({ frames := 2, cells := 0, slots := 0, locals := 48 } : Room) s m args below meth c H locs 0 0 (MQ below (fQi Γ r σ') args s 0 0 (fAd Γ)) (F0 m 69 ls [])) : ∀ (v2 : Int32) (v3 : Int32) (v4 : Int32) (v5 : Int32) (s0 : Int32) (σ : fS) (H : Heap) (locs : List Loc) (ls : Array Slot), f_X6_findEntry_b127 K69 v2 v3 v4 v5 s0 σ = some (r, σ') → fH Γ σ H → va_S (fAd Γ) s.heap H locs → lv_has ls 7 [(0, .ref (Γ.1 157)), (2, .int v2), (3, .int v3), (4, .int v4), (5, .int v5)] → W p l e ({ frames := 2, cells := 0, slots := 0, locals := 48 } : Room) s m args below meth c H locs 0 0 (MQ below (fQi Γ r σ') args s 0 0 (fAd Γ)) (F0 m 127 ls [.int s0]) := by
  intro v2 v3 v4 v5 s0 σ H locs ls hf hP hS hl
  unfold f_X6_findEntry_b127 at hf
  refine lv_istore (lv' := [(6, .int s0), (0, .ref (Γ.1 157)), (2, .int v2), (3, .int v3), (4, .int v4), (5, .int v5)]) C.1 C.2.1 (kd kX6_findEntry_1 10 rfl) hl (Nat.le_of_ble_eq_true rfl) rfl (fun ls hl => ?_)
  refine lv_aload_n C.1 C.2.1 (kd kX6_findEntry_1 11 rfl) rfl (lv_at hl 1 rfl) ?_
  refine lv_iload C.1 C.2.1 (kd kX6_findEntry_1 12 rfl) (lv_at hl 4 rfl) ?_
  refine lv_iload C.1 C.2.1 (kd kX6_findEntry_1 13 rfl) (lv_at hl 5 rfl) ?_
  refine lv_iload C.1 C.2.1 (kd kX6_findEntry_1 14 rfl) (lv_at hl 0 rfl) ?_
  refine lv_if_eq (tgt := 143) C.1 C.2.1 (kd kX6_findEntry_1 15 rfl) (by decide) (fun q => ?_) (fun q => ?_)
  · have hf := fif_pos q hf
    refine lv_iconst (v := (1 : Int32)) C.1 C.2.1 (kd kX6_findEntry_1 18 rfl) (by decide) ?_
    exact w_X6_findEntry_b144 C hK69 (v2) (v3) (v4) (v5) ((1 : Int32)) (v5) (v4) σ H locs ls hf hP hS (lv_sub hl [1, 2, 3, 4, 5] rfl)
  have hf := fif_neg q hf
  refine lv_iconst (v := (-1 : Int32)) C.1 C.2.1 (kd kX6_findEntry_1 16 rfl) (by decide) ?_
  refine lv_goto (tgt := 144) C.1 C.2.1 (kd kX6_findEntry_1 17 rfl) (by decide) ?_
  exact w_X6_findEntry_b144 C hK69 (v2) (v3) (v4) (v5) ((-1 : Int32)) (v5) (v4) σ H locs ls hf hP hS (lv_sub hl [1, 2, 3, 4, 5] rfl)
def f_X6_findEntry_b126 (K69 : Int32 → Int32 → Int32 → Int32 → fS → Option (Int32 × fS)) (v2 : Int32) (v3 : Int32) (v4 : Int32) (v5 : Int32) (σ : fS) : Option (Int32 × fS) := f_X6_findEntry_b127 K69 (v2) (v3) (v4) (v5) ((0 : Int32)) σ
set_option maxRecDepth 100000 in
set_option maxHeartbeats 4000000 in
theorem w_X6_findEntry_b126 {r : Int32} {σ' : fS} {K69 : Int32 → Int32 → Int32 → Int32 → fS → Option (Int32 × fS)}  (C : fC Γ p s m args meth c cX6_findEntry (some .boolean) RX6 7) (hK69 : ∀ (v2 : Int32) (v3 : Int32) (v4 : Int32) (v5 : Int32) (σ : fS) (H : Heap) (locs : List Loc) (ls : Array Slot), K69 v2 v3 v4 v5 σ = some (r, σ') → fH Γ σ H → va_S (fAd Γ) s.heap H locs → lv_has ls 7 [(0, .ref (Γ.1 157)), (2, .int v2), (3, .int v3), (4, .int v4), (5, .int v5)] → W p l e ({ frames := 2, cells := 0, slots := 0, locals := 48 } : Room) s m args below meth c H locs 0 0 (MQ below (fQi Γ r σ') args s 0 0 (fAd Γ)) (F0 m 69 ls [])) : ∀ (v2 : Int32) (v3 : Int32) (v4 : Int32) (v5 : Int32) (σ : fS) (H : Heap) (locs : List Loc) (ls : Array Slot), f_X6_findEntry_b126 K69 v2 v3 v4 v5 σ = some (r, σ') → fH Γ σ H → va_S (fAd Γ) s.heap H locs → lv_has ls 7 [(0, .ref (Γ.1 157)), (2, .int v2), (3, .int v3), (4, .int v4), (5, .int v5)] → W p l e ({ frames := 2, cells := 0, slots := 0, locals := 48 } : Room) s m args below meth c H locs 0 0 (MQ below (fQi Γ r σ') args s 0 0 (fAd Γ)) (F0 m 126 ls []) := by
  intro v2 v3 v4 v5 σ H locs ls hf hP hS hl
  unfold f_X6_findEntry_b126 at hf
  refine lv_iconst (v := (0 : Int32)) C.1 C.2.1 (kd kX6_findEntry_1 9 rfl) (by decide) ?_
  exact w_X6_findEntry_b127 C hK69 (v2) (v3) (v4) (v5) ((0 : Int32)) σ H locs ls hf hP hS (lv_sub hl [0, 1, 2, 3, 4] rfl)
def f_X6_findEntry_b101 (K69 : Int32 → Int32 → Int32 → Int32 → fS → Option (Int32 × fS)) (v2 : Int32) (v3 : Int32) (v4 : Int32) (v5 : Int32) (σ : fS) : Option (Int32 × fS) := (if v2 = (116 : Int32) then (if v5 = (1 : Int32) then fcall (f_X6_passes (45 : Int32) σ) (fun r1_ σ1 => (if r1_ = 0 then f_X6_findEntry_b126 K69 (v2) (v3) (v4) (v5) σ1 else f_X6_findEntry_b127 K69 (v2) (v3) (v4) (v5) ((1 : Int32)) σ1)) else f_X6_findEntry_b126 K69 (v2) (v3) (v4) (v5) σ) else f_X6_findEntry_b126 K69 (v2) (v3) (v4) (v5) σ)
set_option maxRecDepth 100000 in
set_option maxHeartbeats 4000000 in
theorem w_X6_findEntry_b101 {r : Int32} {σ' : fS} {K69 : Int32 → Int32 → Int32 → Int32 → fS → Option (Int32 × fS)}  (C : fC Γ p s m args meth c cX6_findEntry (some .boolean) RX6 7) (hK69 : ∀ (v2 : Int32) (v3 : Int32) (v4 : Int32) (v5 : Int32) (σ : fS) (H : Heap) (locs : List Loc) (ls : Array Slot), K69 v2 v3 v4 v5 σ = some (r, σ') → fH Γ σ H → va_S (fAd Γ) s.heap H locs → lv_has ls 7 [(0, .ref (Γ.1 157)), (2, .int v2), (3, .int v3), (4, .int v4), (5, .int v5)] → W p l e ({ frames := 2, cells := 0, slots := 0, locals := 48 } : Room) s m args below meth c H locs 0 0 (MQ below (fQi Γ r σ') args s 0 0 (fAd Γ)) (F0 m 69 ls [])) : ∀ (v2 : Int32) (v3 : Int32) (v4 : Int32) (v5 : Int32) (σ : fS) (H : Heap) (locs : List Loc) (ls : Array Slot), f_X6_findEntry_b101 K69 v2 v3 v4 v5 σ = some (r, σ') → fH Γ σ H → va_S (fAd Γ) s.heap H locs → lv_has ls 7 [(0, .ref (Γ.1 157)), (2, .int v2), (3, .int v3), (4, .int v4), (5, .int v5)] → W p l e ({ frames := 2, cells := 0, slots := 0, locals := 48 } : Room) s m args below meth c H locs 0 0 (MQ below (fQi Γ r σ') args s 0 0 (fAd Γ)) (F0 m 101 ls []) := by
  intro v2 v3 v4 v5 σ H locs ls hf hP hS hl
  unfold f_X6_findEntry_b101 at hf
  refine lv_iload_n C.1 C.2.1 (kd kX6_findEntry_0 57 rfl) rfl (lv_at hl 1 rfl) ?_
  refine lv_bipush (v := (116 : Int32)) C.1 C.2.1 (kd kX6_findEntry_0 58 rfl) (by decide) ?_
  refine lv_icmp_ne (tgt := 126) C.1 C.2.1 (kd kX6_findEntry_0 59 rfl) (by decide) (fun q => ?_) (fun q => ?_)
  · have hf := fif_neg q hf
    exact w_X6_findEntry_b126 C hK69 (v2) (v3) (v4) (v5) σ H locs ls hf hP hS (lv_sub hl [0, 1, 2, 3, 4] rfl)
  have hf := fif_pos q hf
  refine lv_iload C.1 C.2.1 (kd kX6_findEntry_1 0 rfl) (lv_at hl 4 rfl) ?_
  refine lv_iconst (v := (1 : Int32)) C.1 C.2.1 (kd kX6_findEntry_1 1 rfl) (by decide) ?_
  refine lv_icmp_ne (tgt := 126) C.1 C.2.1 (kd kX6_findEntry_1 2 rfl) (by decide) (fun q => ?_) (fun q => ?_)
  · have hf := fif_neg q hf
    exact w_X6_findEntry_b126 C hK69 (v2) (v3) (v4) (v5) σ H locs ls hf hP hS (lv_sub hl [0, 1, 2, 3, 4] rfl)
  have hf := fif_pos q hf
  refine lv_aload_n C.1 C.2.1 (kd kX6_findEntry_1 3 rfl) rfl (lv_at hl 0 rfl) ?_
  refine lv_bipush (v := (45 : Int32)) C.1 C.2.1 (kd kX6_findEntry_1 4 rfl) (by decide) ?_
  obtain ⟨r1_, σ1, hσ1, hf⟩ := fcall_some hf
  refine fl_i hS (fl_runV (As := [.int (45 : Int32)]) (rest := []) C hP rfl (Nat.le_of_ble_eq_true rfl) rfl (m_X6_passes C.2.2.2.2.2.2.2.2 l  hσ1) (fgV tw_492 tw_494 tw_4 tw_73 tw_495) hd_X6_passes ⟨rfl, rfl, Nat.le_of_ble_eq_true rfl, Nat.le_of_ble_eq_true rfl⟩ rfl hl.1 rfl (Nat.le_of_ble_eq_true rfl) (kd kX6_findEntry_1 5 rfl)) (fun H locs hP hS => ?_)
  refine lv_if_eq (tgt := 126) C.1 C.2.1 (kd kX6_findEntry_1 6 rfl) (by decide) (fun q => ?_) (fun q => ?_)
  · have hf := fif_pos q hf
    exact w_X6_findEntry_b126 C hK69 (v2) (v3) (v4) (v5) σ1 H locs ls hf hP hS (lv_sub hl [0, 1, 2, 3, 4] rfl)
  have hf := fif_neg q hf
  refine lv_iconst (v := (1 : Int32)) C.1 C.2.1 (kd kX6_findEntry_1 7 rfl) (by decide) ?_
  refine lv_goto (tgt := 127) C.1 C.2.1 (kd kX6_findEntry_1 8 rfl) (by decide) ?_
  exact w_X6_findEntry_b127 C hK69 (v2) (v3) (v4) (v5) ((1 : Int32)) σ1 H locs ls hf hP hS (lv_sub hl [0, 1, 2, 3, 4] rfl)
def f_X6_findEntry_b93 (K69 : Int32 → Int32 → Int32 → Int32 → fS → Option (Int32 × fS)) (v2 : Int32) (v3 : Int32) (v4 : Int32) (v5 : Int32) (s0 : Int32) (σ : fS) : Option (Int32 × fS) := fcall (f_X6_passes s0 σ) (fun r1_ σ1 => (if r1_ = 0 then some ((0 : Int32), σ1) else f_X6_findEntry_b101 K69 (v2) (v3) (v4) (v5) σ1))
set_option maxRecDepth 100000 in
set_option maxHeartbeats 4000000 in
theorem w_X6_findEntry_b93 {r : Int32} {σ' : fS} {K69 : Int32 → Int32 → Int32 → Int32 → fS → Option (Int32 × fS)}  (C : fC Γ p s m args meth c cX6_findEntry (some .boolean) RX6 7) (hK69 : ∀ (v2 : Int32) (v3 : Int32) (v4 : Int32) (v5 : Int32) (σ : fS) (H : Heap) (locs : List Loc) (ls : Array Slot), K69 v2 v3 v4 v5 σ = some (r, σ') → fH Γ σ H → va_S (fAd Γ) s.heap H locs → lv_has ls 7 [(0, .ref (Γ.1 157)), (2, .int v2), (3, .int v3), (4, .int v4), (5, .int v5)] → W p l e ({ frames := 2, cells := 0, slots := 0, locals := 48 } : Room) s m args below meth c H locs 0 0 (MQ below (fQi Γ r σ') args s 0 0 (fAd Γ)) (F0 m 69 ls [])) : ∀ (v2 : Int32) (v3 : Int32) (v4 : Int32) (v5 : Int32) (s0 : Int32) (σ : fS) (H : Heap) (locs : List Loc) (ls : Array Slot), f_X6_findEntry_b93 K69 v2 v3 v4 v5 s0 σ = some (r, σ') → fH Γ σ H → va_S (fAd Γ) s.heap H locs → lv_has ls 7 [(0, .ref (Γ.1 157)), (2, .int v2), (3, .int v3), (4, .int v4), (5, .int v5)] → W p l e ({ frames := 2, cells := 0, slots := 0, locals := 48 } : Room) s m args below meth c H locs 0 0 (MQ below (fQi Γ r σ') args s 0 0 (fAd Γ)) (F0 m 93 ls [.int s0, .ref (Γ.1 157)]) := by
  intro v2 v3 v4 v5 s0 σ H locs ls hf hP hS hl
  unfold f_X6_findEntry_b93 at hf
  obtain ⟨r1_, σ1, hσ1, hf⟩ := fcall_some hf
  refine fl_i hS (fl_runV (As := [.int s0]) (rest := []) C hP rfl (Nat.le_of_ble_eq_true rfl) rfl (m_X6_passes C.2.2.2.2.2.2.2.2 l  hσ1) (fgV tw_492 tw_494 tw_4 tw_73 tw_495) hd_X6_passes ⟨rfl, rfl, Nat.le_of_ble_eq_true rfl, Nat.le_of_ble_eq_true rfl⟩ rfl hl.1 rfl (Nat.le_of_ble_eq_true rfl) (kd kX6_findEntry_0 53 rfl)) (fun H locs hP hS => ?_)
  refine lv_if_ne (tgt := 101) C.1 C.2.1 (kd kX6_findEntry_0 54 rfl) (by decide) (fun q => ?_) (fun q => ?_)
  · have hf := fif_neg q hf
    exact w_X6_findEntry_b101 C hK69 (v2) (v3) (v4) (v5) σ1 H locs ls hf hP hS (lv_sub hl [0, 1, 2, 3, 4] rfl)
  have hf := fif_pos q hf
  refine lv_iconst (v := (0 : Int32)) C.1 C.2.1 (kd kX6_findEntry_0 55 rfl) (by decide) ?_
  exact fl_zret C hP hS rfl hf (kd kX6_findEntry_0 56 rfl)
def f_X6_findEntry_b69 : Nat → Int32 → Int32 → Int32 → Int32 → fS → Option (Int32 × fS)
  | 0, _, _, _, _, _ => none
  | n_ + 1, v2, v3, v4, v5, σ => (if v3 ≤ v5 then some ((1 : Int32), σ) else (if v5 ≤ 0 then f_X6_findEntry_b101 (fun v2 v3 v4 v5 σ => f_X6_findEntry_b69 n_ v2 v3 v4 v5 σ) (v2) (v3) (v4) (v5) σ else (if v3 = (2 : Int32) then f_X6_findEntry_b93 (fun v2 v3 v4 v5 σ => f_X6_findEntry_b69 n_ v2 v3 v4 v5 σ) (v2) (v3) (v4) (v5) ((61 : Int32)) σ else f_X6_findEntry_b93 (fun v2 v3 v4 v5 σ => f_X6_findEntry_b69 n_ v2 v3 v4 v5 σ) (v2) (v3) (v4) (v5) ((44 : Int32)) σ)))
set_option maxRecDepth 100000 in
set_option maxHeartbeats 4000000 in
theorem w_X6_findEntry_b69 {r : Int32} {σ' : fS}  (C : fC Γ p s m args meth c cX6_findEntry (some .boolean) RX6 7) : ∀ (n_ : Nat) (v2 : Int32) (v3 : Int32) (v4 : Int32) (v5 : Int32) (σ : fS) (H : Heap) (locs : List Loc) (ls : Array Slot), f_X6_findEntry_b69 n_ v2 v3 v4 v5 σ = some (r, σ') → fH Γ σ H → va_S (fAd Γ) s.heap H locs → lv_has ls 7 [(0, .ref (Γ.1 157)), (2, .int v2), (3, .int v3), (4, .int v4), (5, .int v5)] → W p l e ({ frames := 2, cells := 0, slots := 0, locals := 48 } : Room) s m args below meth c H locs 0 0 (MQ below (fQi Γ r σ') args s 0 0 (fAd Γ)) (F0 m 69 ls []) := by
  intro n_
  induction n_ with
  | zero =>
    intro v2 v3 v4 v5 σ H locs ls hf
    cases hf
  | succ n_ ih =>
    intro v2 v3 v4 v5 σ H locs ls hf hP hS hl
    have hf : (if v3 ≤ v5 then some ((1 : Int32), σ) else (if v5 ≤ 0 then f_X6_findEntry_b101 (fun v2 v3 v4 v5 σ => f_X6_findEntry_b69 n_ v2 v3 v4 v5 σ) (v2) (v3) (v4) (v5) σ else (if v3 = (2 : Int32) then f_X6_findEntry_b93 (fun v2 v3 v4 v5 σ => f_X6_findEntry_b69 n_ v2 v3 v4 v5 σ) (v2) (v3) (v4) (v5) ((61 : Int32)) σ else f_X6_findEntry_b93 (fun v2 v3 v4 v5 σ => f_X6_findEntry_b69 n_ v2 v3 v4 v5 σ) (v2) (v3) (v4) (v5) ((44 : Int32)) σ))) = some (r, σ') := hf
    have hK69 := ih
    refine lv_iload C.1 C.2.1 (kd kX6_findEntry_0 41 rfl) (lv_at hl 4 rfl) ?_
    refine lv_iload_n C.1 C.2.1 (kd kX6_findEntry_0 42 rfl) rfl (lv_at hl 2 rfl) ?_
    refine lv_icmp_ge (tgt := 158) C.1 C.2.1 (kd kX6_findEntry_0 43 rfl) (by decide) (fun q => ?_) (fun q => ?_)
    · have hf := fif_pos q hf
      refine lv_iconst (v := (1 : Int32)) C.1 C.2.1 (kd kX6_findEntry_1 25 rfl) (by decide) ?_
      exact fl_zret C hP hS rfl hf (kd kX6_findEntry_1 26 rfl)
    have hf := fif_neg q hf
    refine lv_iload C.1 C.2.1 (kd kX6_findEntry_0 44 rfl) (lv_at hl 4 rfl) ?_
    refine lv_if_le (tgt := 101) C.1 C.2.1 (kd kX6_findEntry_0 45 rfl) (by decide) (fun q => ?_) (fun q => ?_)
    · have hf := fif_pos q hf
      exact w_X6_findEntry_b101 C hK69 (v2) (v3) (v4) (v5) σ H locs ls hf hP hS (lv_sub hl [0, 1, 2, 3, 4] rfl)
    have hf := fif_neg q hf
    refine lv_aload_n C.1 C.2.1 (kd kX6_findEntry_0 46 rfl) rfl (lv_at hl 0 rfl) ?_
    refine lv_iload_n C.1 C.2.1 (kd kX6_findEntry_0 47 rfl) rfl (lv_at hl 2 rfl) ?_
    refine lv_iconst (v := (2 : Int32)) C.1 C.2.1 (kd kX6_findEntry_0 48 rfl) (by decide) ?_
    refine lv_icmp_ne (tgt := 91) C.1 C.2.1 (kd kX6_findEntry_0 49 rfl) (by decide) (fun q => ?_) (fun q => ?_)
    · have hf := fif_neg q hf
      refine lv_bipush (v := (44 : Int32)) C.1 C.2.1 (kd kX6_findEntry_0 52 rfl) (by decide) ?_
      exact w_X6_findEntry_b93 C hK69 (v2) (v3) (v4) (v5) ((44 : Int32)) σ H locs ls hf hP hS (lv_sub hl [0, 1, 2, 3, 4] rfl)
    have hf := fif_pos q hf
    refine lv_bipush (v := (61 : Int32)) C.1 C.2.1 (kd kX6_findEntry_0 50 rfl) (by decide) ?_
    refine lv_goto (tgt := 93) C.1 C.2.1 (kd kX6_findEntry_0 51 rfl) (by decide) ?_
    exact w_X6_findEntry_b93 C hK69 (v2) (v3) (v4) (v5) ((61 : Int32)) σ H locs ls hf hP hS (lv_sub hl [0, 1, 2, 3, 4] rfl)
def f_X6_findEntry (σ : fS) : Option (Int32 × fS) := fcall (f_X6_signHere σ) (fun r1_ σ1 => fcall (f_X6_countNumbers r1_ σ1) (fun r2_ σ2 => (if r2_ = 0 then some ((0 : Int32), σ2) else fL (fu σ2 157 4 ((σ2 157 4) + (1 : Int32))) (fun σ3 => fcall (f_X5_addRow 159 12 6 (0 : Int32) (0 : Int32) (0 : Int32) (0 : Int32) σ3) (fun r4_ σ4 => fcallv (f_X5_put 159 12 6 r4_ (4 : Int32) r1_ σ4) (fun σ5 => fcallv (f_X5_put 159 12 6 r4_ (5 : Int32) (σ 157 4) σ5) (fun σ6 => f_X6_findEntry_b69 fN (r1_) (r2_) (r4_) ((0 : Int32)) σ6)))))))
set_option maxRecDepth 100000 in
set_option maxHeartbeats 4000000 in
theorem m_X6_findEntry {Γ : fGm} (hI : fI Γ) (l : Launch) {σ : fS} {r : Int32} {σ' : fS} (hf : f_X6_findEntry  σ = some (r, σ')) : Met l yX6_findEntry (.code yX6_findEntry cX6_findEntry 7 (some .boolean) :: lw_g) ({ frames := 2, cells := 0, slots := 0, locals := 48 } : Room) (fPre Γ [.ref (Γ.1 157)] σ) (fQi Γ r σ') 0 0 (fAd Γ) := by
  refine fl_enter (own := RX6) hI (by decide +kernel) rfl (Nat.le_of_ble_eq_true rfl) ?_
  intro p e s m args below meth c ls C hl hP hS
  have hl : lv_has ls 7 [(0, .ref (Γ.1 157))] := hl
  obtain ⟨H, hH⟩ : ∃ H, H = s.heap := ⟨_, rfl⟩
  obtain ⟨locs, hL⟩ : ∃ L : List Loc, L = [] := ⟨_, rfl⟩
  have hP : fH Γ σ H := by rw [hH]; exact hP
  have hS : va_S (fAd Γ) s.heap H locs := by rw [hH, hL]; exact hS
  suffices hw : W p l e ({ frames := 2, cells := 0, slots := 0, locals := 48 } : Room) s m args below meth c H locs 0 0 (MQ below (fQi Γ r σ') args s 0 0 (fAd Γ)) (F0 m 0 ls []) by rw [hH, hL] at hw; exact hw
  unfold f_X6_findEntry at hf
  refine lv_aload_n C.1 C.2.1 (kd kX6_findEntry_0 0 rfl) rfl (lv_at hl 0 rfl) ?_
  refine fl_get (j := 4) (v := .int (σ 157 4)) C hP rfl (Nat.le_of_ble_eq_true rfl) rfl inX6 (Nat.le_of_ble_eq_true rfl) tw_254 rfl (kd kX6_findEntry_0 1 rfl) ?_
  refine lv_istore_n (lv' := [(1, .int (σ 157 4)), (0, .ref (Γ.1 157))]) C.1 C.2.1 (kd kX6_findEntry_0 2 rfl) rfl hl (Nat.le_of_ble_eq_true rfl) rfl (fun ls hl => ?_)
  refine lv_aload_n C.1 C.2.1 (kd kX6_findEntry_0 3 rfl) rfl (lv_at hl 1 rfl) ?_
  obtain ⟨r1_, σ1, hσ1, hf⟩ := fcall_some hf
  refine fl_i hS (fl_runV (As := []) (rest := []) C hP rfl (Nat.le_of_ble_eq_true rfl) rfl (m_X6_signHere C.2.2.2.2.2.2.2.2 l  hσ1) (fgV tw_483 tw_485 tw_3 tw_73 tw_486) hd_X6_signHere ⟨rfl, rfl, Nat.le_of_ble_eq_true rfl, Nat.le_of_ble_eq_true rfl⟩ rfl hl.1 rfl (Nat.le_of_ble_eq_true rfl) (kd kX6_findEntry_0 4 rfl)) (fun H locs hP hS => ?_)
  refine lv_istore_n (lv' := [(2, .int r1_), (1, .int (σ 157 4)), (0, .ref (Γ.1 157))]) C.1 C.2.1 (kd kX6_findEntry_0 5 rfl) rfl hl (Nat.le_of_ble_eq_true rfl) rfl (fun ls hl => ?_)
  refine lv_iload_n C.1 C.2.1 (kd kX6_findEntry_0 6 rfl) rfl (lv_at hl 0 rfl) ?_
  obtain ⟨r2_, σ2, hσ2, hf⟩ := fcall_some hf
  refine fl_i hS (fl_runS (As := [.int r1_]) (rest := []) C hP (m_X6_countNumbers C.2.2.2.2.2.2.2.2 l  hσ2) (fgS tw_487 tw_488 tw_73 tw_489) hs_X6_countNumbers ⟨rfl, rfl, Nat.le_of_ble_eq_true rfl, Nat.le_of_ble_eq_true rfl⟩ rfl hl.1 rfl (Nat.le_of_ble_eq_true rfl) (kd kX6_findEntry_0 7 rfl)) (fun H locs hP hS => ?_)
  refine lv_istore_n (lv' := [(3, .int r2_), (2, .int r1_), (1, .int (σ 157 4)), (0, .ref (Γ.1 157))]) C.1 C.2.1 (kd kX6_findEntry_0 8 rfl) rfl hl (Nat.le_of_ble_eq_true rfl) rfl (fun ls hl => ?_)
  refine lv_iload_n C.1 C.2.1 (kd kX6_findEntry_0 9 rfl) rfl (lv_at hl 0 rfl) ?_
  refine lv_if_ne (tgt := 21) C.1 C.2.1 (kd kX6_findEntry_0 10 rfl) (by decide) (fun q => ?_) (fun q => ?_)
  · have hf := fif_neg q hf
    refine lv_aload_n C.1 C.2.1 (kd kX6_findEntry_0 13 rfl) rfl (lv_at hl 3 rfl) ?_
    refine lv_dup C.1 C.2.1 (kd kX6_findEntry_0 14 rfl) rfl ?_
    refine fl_get (j := 4) (v := .int (σ2 157 4)) C hP rfl (Nat.le_of_ble_eq_true rfl) rfl inX6 (Nat.le_of_ble_eq_true rfl) tw_254 rfl (kd kX6_findEntry_0 15 rfl) ?_
    refine lv_iconst (v := (1 : Int32)) C.1 C.2.1 (kd kX6_findEntry_0 16 rfl) (by decide) ?_
    refine lv_iadd C.1 C.2.1 (kd kX6_findEntry_0 17 rfl) ?_
    obtain ⟨σ3, eσ3, hf⟩ := fL_some hf
    refine fl_put (j := 4) C hP hS rfl rfl (Nat.le_of_ble_eq_true rfl) rfl inX6 tyX6 tyX6_ok nmX6 (Nat.le_of_ble_eq_true rfl) tw_254 rfl rfl rfl (Nat.le_of_ble_eq_true rfl) (kd kX6_findEntry_0 18 rfl) (fun H locs hP hS => ?_)
    have hP : fH Γ σ3 H := by rw [eσ3]; exact hP
    refine lv_aload_n C.1 C.2.1 (kd kX6_findEntry_0 19 rfl) rfl (lv_at hl 3 rfl) ?_
    refine fl_get (j := 3) (v := .ref (Γ.1 159)) C hP rfl (Nat.le_of_ble_eq_true rfl) rfl inX6 (Nat.le_of_ble_eq_true rfl) tw_253 rfl (kd kX6_findEntry_0 20 rfl) ?_
    refine lv_iconst (v := (0 : Int32)) C.1 C.2.1 (kd kX6_findEntry_0 21 rfl) (by decide) ?_
    refine lv_iconst (v := (0 : Int32)) C.1 C.2.1 (kd kX6_findEntry_0 22 rfl) (by decide) ?_
    refine lv_iconst (v := (0 : Int32)) C.1 C.2.1 (kd kX6_findEntry_0 23 rfl) (by decide) ?_
    refine lv_iconst (v := (0 : Int32)) C.1 C.2.1 (kd kX6_findEntry_0 24 rfl) (by decide) ?_
    obtain ⟨r4_, σ4, hσ4, hf⟩ := fcall_some hf
    refine fl_i hS (fl_runV (As := [.int (0 : Int32), .int (0 : Int32), .int (0 : Int32), .int (0 : Int32)]) (rest := []) C hP rfl (Nat.le_of_ble_eq_true rfl) rfl (m_X5_addRow C.2.2.2.2.2.2.2.2 l rfl hσ4) (fgV tw_490 tw_337 tw_338 tw_69 tw_339) hd_X5_addRow ⟨rfl, rfl, Nat.le_of_ble_eq_true rfl, Nat.le_of_ble_eq_true rfl⟩ rfl hl.1 rfl (Nat.le_of_ble_eq_true rfl) (kd kX6_findEntry_0 25 rfl)) (fun H locs hP hS => ?_)
    refine lv_istore (lv' := [(4, .int r4_), (3, .int r2_), (2, .int r1_), (1, .int (σ 157 4)), (0, .ref (Γ.1 157))]) C.1 C.2.1 (kd kX6_findEntry_0 26 rfl) hl (Nat.le_of_ble_eq_true rfl) rfl (fun ls hl => ?_)
    refine lv_aload_n C.1 C.2.1 (kd kX6_findEntry_0 27 rfl) rfl (lv_at hl 4 rfl) ?_
    refine fl_get (j := 3) (v := .ref (Γ.1 159)) C hP rfl (Nat.le_of_ble_eq_true rfl) rfl inX6 (Nat.le_of_ble_eq_true rfl) tw_253 rfl (kd kX6_findEntry_0 28 rfl) ?_
    refine lv_iload C.1 C.2.1 (kd kX6_findEntry_0 29 rfl) (lv_at hl 0 rfl) ?_
    refine lv_iconst (v := (4 : Int32)) C.1 C.2.1 (kd kX6_findEntry_0 30 rfl) (by decide) ?_
    refine lv_iload_n C.1 C.2.1 (kd kX6_findEntry_0 31 rfl) rfl (lv_at hl 2 rfl) ?_
    obtain ⟨σ5, hσ5, hf⟩ := fcallv_some hf
    refine fl_v hS (fl_runV (As := [.int r4_, .int (4 : Int32), .int r1_]) (rest := []) C hP rfl (Nat.le_of_ble_eq_true rfl) rfl (m_X5_put C.2.2.2.2.2.2.2.2 l rfl hσ5) (fgV tw_491 tw_276 tw_277 tw_69 tw_278) hd_X5_put ⟨rfl, rfl, Nat.le_of_ble_eq_true rfl, Nat.le_of_ble_eq_true rfl⟩ rfl hl.1 rfl (Nat.le_of_ble_eq_true rfl) (kd kX6_findEntry_0 32 rfl)) (fun H locs hP hS => ?_)
    refine lv_aload_n C.1 C.2.1 (kd kX6_findEntry_0 33 rfl) rfl (lv_at hl 4 rfl) ?_
    refine fl_get (j := 3) (v := .ref (Γ.1 159)) C hP rfl (Nat.le_of_ble_eq_true rfl) rfl inX6 (Nat.le_of_ble_eq_true rfl) tw_253 rfl (kd kX6_findEntry_0 34 rfl) ?_
    refine lv_iload C.1 C.2.1 (kd kX6_findEntry_0 35 rfl) (lv_at hl 0 rfl) ?_
    refine lv_iconst (v := (5 : Int32)) C.1 C.2.1 (kd kX6_findEntry_0 36 rfl) (by decide) ?_
    refine lv_iload_n C.1 C.2.1 (kd kX6_findEntry_0 37 rfl) rfl (lv_at hl 3 rfl) ?_
    obtain ⟨σ6, hσ6, hf⟩ := fcallv_some hf
    refine fl_v hS (fl_runV (As := [.int r4_, .int (5 : Int32), .int (σ 157 4)]) (rest := []) C hP rfl (Nat.le_of_ble_eq_true rfl) rfl (m_X5_put C.2.2.2.2.2.2.2.2 l rfl hσ6) (fgV tw_491 tw_276 tw_277 tw_69 tw_278) hd_X5_put ⟨rfl, rfl, Nat.le_of_ble_eq_true rfl, Nat.le_of_ble_eq_true rfl⟩ rfl hl.1 rfl (Nat.le_of_ble_eq_true rfl) (kd kX6_findEntry_0 38 rfl)) (fun H locs hP hS => ?_)
    refine lv_iconst (v := (0 : Int32)) C.1 C.2.1 (kd kX6_findEntry_0 39 rfl) (by decide) ?_
    refine lv_istore (lv' := [(5, .int (0 : Int32)), (4, .int r4_), (3, .int r2_), (2, .int r1_), (1, .int (σ 157 4)), (0, .ref (Γ.1 157))]) C.1 C.2.1 (kd kX6_findEntry_0 40 rfl) hl (Nat.le_of_ble_eq_true rfl) rfl (fun ls hl => ?_)
    exact w_X6_findEntry_b69 C fN (r1_) (r2_) (r4_) ((0 : Int32)) σ6 H locs ls hf hP hS (lv_sub hl [5, 3, 2, 1, 0] rfl)
  have hf := fif_pos q hf
  refine lv_iconst (v := (0 : Int32)) C.1 C.2.1 (kd kX6_findEntry_0 11 rfl) (by decide) ?_
  exact fl_zret C hP hS rfl hf (kd kX6_findEntry_0 12 rfl)
def f_X6_findEntries_b14 : Nat → Int32 → fS → Option (Int32 × fS)
  | 0, _, _ => none
  | n_ + 1, v1, σ => (if (12 : Int32) ≤ v1 then some ((σ 157 4), σ) else fcall (f_X6_findEntry σ) (fun r1_ σ1 => (if r1_ = 0 then some ((σ1 157 4), σ1) else (if (σ1 157 4) = (σ1 157 0) then some ((-10004 : Int32), σ1) else fcall (f_X6_passes (59 : Int32) σ1) (fun r2_ σ2 => (if r2_ = 0 then some ((σ2 157 4), σ2) else (fun v1 σ => f_X6_findEntries_b14 n_ v1 σ) ((v1 + (1 : Int32))) σ2))))))
set_option maxRecDepth 100000 in
set_option maxHeartbeats 4000000 in
theorem w_X6_findEntries_b14 {r : Int32} {σ' : fS}  (C : fC Γ p s m args meth c cX6_findEntries (some .int) RX6 2) : ∀ (n_ : Nat) (v1 : Int32) (σ : fS) (H : Heap) (locs : List Loc) (ls : Array Slot), f_X6_findEntries_b14 n_ v1 σ = some (r, σ') → fH Γ σ H → va_S (fAd Γ) s.heap H locs → lv_has ls 2 [(0, .ref (Γ.1 157)), (1, .int v1)] → W p l e ({ frames := 3, cells := 0, slots := 0, locals := 74 } : Room) s m args below meth c H locs 0 0 (MQ below (fQi Γ r σ') args s 0 0 (fAd Γ)) (F0 m 14 ls []) := by
  intro n_
  induction n_ with
  | zero =>
    intro v1 σ H locs ls hf
    cases hf
  | succ n_ ih =>
    intro v1 σ H locs ls hf hP hS hl
    have hf : (if (12 : Int32) ≤ v1 then some ((σ 157 4), σ) else fcall (f_X6_findEntry σ) (fun r1_ σ1 => (if r1_ = 0 then some ((σ1 157 4), σ1) else (if (σ1 157 4) = (σ1 157 0) then some ((-10004 : Int32), σ1) else fcall (f_X6_passes (59 : Int32) σ1) (fun r2_ σ2 => (if r2_ = 0 then some ((σ2 157 4), σ2) else (fun v1 σ => f_X6_findEntries_b14 n_ v1 σ) ((v1 + (1 : Int32))) σ2)))))) = some (r, σ') := hf
    have hK14 := ih
    refine lv_iload_n C.1 C.2.1 (kd kX6_findEntries_0 8 rfl) rfl (lv_at hl 1 rfl) ?_
    refine lv_bipush (v := (12 : Int32)) C.1 C.2.1 (kd kX6_findEntries_0 9 rfl) (by decide) ?_
    refine lv_icmp_ge (tgt := 67) C.1 C.2.1 (kd kX6_findEntries_0 10 rfl) (by decide) (fun q => ?_) (fun q => ?_)
    · have hf := fif_pos q hf
      refine lv_aload_n C.1 C.2.1 (kd kX6_findEntries_0 33 rfl) rfl (lv_at hl 0 rfl) ?_
      refine fl_get (j := 4) (v := .int (σ 157 4)) C hP rfl (Nat.le_of_ble_eq_true rfl) rfl inX6 (Nat.le_of_ble_eq_true rfl) tw_254 rfl (kd kX6_findEntries_0 34 rfl) ?_
      exact fl_iret C hP hS hf (kd kX6_findEntries_0 35 rfl)
    have hf := fif_neg q hf
    refine lv_aload_n C.1 C.2.1 (kd kX6_findEntries_0 11 rfl) rfl (lv_at hl 0 rfl) ?_
    obtain ⟨r1_, σ1, hσ1, hf⟩ := fcall_some hf
    refine fl_i hS (fl_runV (As := []) (rest := []) C hP rfl (Nat.le_of_ble_eq_true rfl) rfl (m_X6_findEntry C.2.2.2.2.2.2.2.2 l  hσ1) (fgV tw_479 tw_481 tw_2 tw_73 tw_482) hd_X6_findEntry ⟨rfl, rfl, Nat.le_of_ble_eq_true rfl, Nat.le_of_ble_eq_true rfl⟩ rfl hl.1 rfl (Nat.le_of_ble_eq_true rfl) (kd kX6_findEntries_0 12 rfl)) (fun H locs hP hS => ?_)
    refine lv_if_ne (tgt := 32) C.1 C.2.1 (kd kX6_findEntries_0 13 rfl) (by decide) (fun q => ?_) (fun q => ?_)
    · have hf := fif_neg q hf
      refine lv_aload_n C.1 C.2.1 (kd kX6_findEntries_0 17 rfl) rfl (lv_at hl 0 rfl) ?_
      refine fl_get (j := 4) (v := .int (σ1 157 4)) C hP rfl (Nat.le_of_ble_eq_true rfl) rfl inX6 (Nat.le_of_ble_eq_true rfl) tw_254 rfl (kd kX6_findEntries_0 18 rfl) ?_
      refine lv_aload_n C.1 C.2.1 (kd kX6_findEntries_0 19 rfl) rfl (lv_at hl 0 rfl) ?_
      refine fl_get (j := 0) (v := .int (σ1 157 0)) C hP rfl (Nat.le_of_ble_eq_true rfl) rfl inX6 (Nat.le_of_ble_eq_true rfl) tw_248 rfl (kd kX6_findEntries_0 20 rfl) ?_
      refine lv_icmp_ne (tgt := 47) C.1 C.2.1 (kd kX6_findEntries_0 21 rfl) (by decide) (fun q => ?_) (fun q => ?_)
      · have hf := fif_neg q hf
        refine lv_aload_n C.1 C.2.1 (kd kX6_findEntries_0 24 rfl) rfl (lv_at hl 0 rfl) ?_
        refine lv_bipush (v := (59 : Int32)) C.1 C.2.1 (kd kX6_findEntries_0 25 rfl) (by decide) ?_
        obtain ⟨r2_, σ2, hσ2, hf⟩ := fcall_some hf
        refine fl_i hS (fl_runV (As := [.int (59 : Int32)]) (rest := []) C hP rfl (Nat.le_of_ble_eq_true rfl) rfl (m_X6_passes C.2.2.2.2.2.2.2.2 l  hσ2) (fgV tw_492 tw_494 tw_4 tw_73 tw_495) hd_X6_passes ⟨rfl, rfl, Nat.le_of_ble_eq_true rfl, Nat.le_of_ble_eq_true rfl⟩ rfl hl.1 rfl (Nat.le_of_ble_eq_true rfl) (kd kX6_findEntries_0 26 rfl)) (fun H locs hP hS => ?_)
        refine lv_if_ne (tgt := 61) C.1 C.2.1 (kd kX6_findEntries_0 27 rfl) (by decide) (fun q => ?_) (fun q => ?_)
        · have hf := fif_neg q hf
          refine lv_iinc (v := (v1 + (1 : Int32))) (lv' := [(1, .int (v1 + (1 : Int32))), (0, .ref (Γ.1 157))]) C.1 C.2.1 (kd kX6_findEntries_0 31 rfl) hl (k := 1) rfl rfl (Nat.le_of_ble_eq_true rfl) rfl (fun ls hl => ?_)
          refine lv_goto (tgt := 14) C.1 C.2.1 (kd kX6_findEntries_0 32 rfl) (by decide) ?_
          exact hK14 ((v1 + (1 : Int32))) σ2 H locs ls hf hP hS (lv_sub hl [1, 0] rfl)
        have hf := fif_pos q hf
        refine lv_aload_n C.1 C.2.1 (kd kX6_findEntries_0 28 rfl) rfl (lv_at hl 0 rfl) ?_
        refine fl_get (j := 4) (v := .int (σ2 157 4)) C hP rfl (Nat.le_of_ble_eq_true rfl) rfl inX6 (Nat.le_of_ble_eq_true rfl) tw_254 rfl (kd kX6_findEntries_0 29 rfl) ?_
        exact fl_iret C hP hS hf (kd kX6_findEntries_0 30 rfl)
      have hf := fif_pos q hf
      refine lv_sipush (v := (-10004 : Int32)) C.1 C.2.1 (kd kX6_findEntries_0 22 rfl) (by decide) ?_
      exact fl_iret C hP hS hf (kd kX6_findEntries_0 23 rfl)
    have hf := fif_pos q hf
    refine lv_aload_n C.1 C.2.1 (kd kX6_findEntries_0 14 rfl) rfl (lv_at hl 0 rfl) ?_
    refine fl_get (j := 4) (v := .int (σ1 157 4)) C hP rfl (Nat.le_of_ble_eq_true rfl) rfl inX6 (Nat.le_of_ble_eq_true rfl) tw_254 rfl (kd kX6_findEntries_0 15 rfl) ?_
    exact fl_iret C hP hS hf (kd kX6_findEntries_0 16 rfl)
def f_X6_findEntries (σ : fS) : Option (Int32 × fS) := fcallv (f_X5_clearRows 159 12 6 σ) (fun σ1 => fL (fu σ1 157 4 (0 : Int32)) (fun σ2 => f_X6_findEntries_b14 fN ((0 : Int32)) σ2))
set_option maxRecDepth 100000 in
set_option maxHeartbeats 4000000 in
theorem m_X6_findEntries {Γ : fGm} (hI : fI Γ) (l : Launch) {σ : fS} {r : Int32} {σ' : fS} (hf : f_X6_findEntries  σ = some (r, σ')) : Met l yX6_findEntries (.code yX6_findEntries cX6_findEntries 2 (some .int) :: lw_g) ({ frames := 3, cells := 0, slots := 0, locals := 74 } : Room) (fPre Γ [.ref (Γ.1 157)] σ) (fQi Γ r σ') 0 0 (fAd Γ) := by
  refine fl_enter (own := RX6) hI (by decide +kernel) rfl (Nat.le_of_ble_eq_true rfl) ?_
  intro p e s m args below meth c ls C hl hP hS
  have hl : lv_has ls 2 [(0, .ref (Γ.1 157))] := hl
  obtain ⟨H, hH⟩ : ∃ H, H = s.heap := ⟨_, rfl⟩
  obtain ⟨locs, hL⟩ : ∃ L : List Loc, L = [] := ⟨_, rfl⟩
  have hP : fH Γ σ H := by rw [hH]; exact hP
  have hS : va_S (fAd Γ) s.heap H locs := by rw [hH, hL]; exact hS
  suffices hw : W p l e ({ frames := 3, cells := 0, slots := 0, locals := 74 } : Room) s m args below meth c H locs 0 0 (MQ below (fQi Γ r σ') args s 0 0 (fAd Γ)) (F0 m 0 ls []) by rw [hH, hL] at hw; exact hw
  unfold f_X6_findEntries at hf
  refine lv_aload_n C.1 C.2.1 (kd kX6_findEntries_0 0 rfl) rfl (lv_at hl 0 rfl) ?_
  refine fl_get (j := 3) (v := .ref (Γ.1 159)) C hP rfl (Nat.le_of_ble_eq_true rfl) rfl inX6 (Nat.le_of_ble_eq_true rfl) tw_253 rfl (kd kX6_findEntries_0 1 rfl) ?_
  obtain ⟨σ1, hσ1, hf⟩ := fcallv_some hf
  refine fl_v hS (fl_runV (As := []) (rest := []) C hP rfl (Nat.le_of_ble_eq_true rfl) rfl (m_X5_clearRows C.2.2.2.2.2.2.2.2 l rfl hσ1) (fgV tw_475 tw_476 tw_477 tw_69 tw_478) hd_X5_clearRows ⟨rfl, rfl, Nat.le_of_ble_eq_true rfl, Nat.le_of_ble_eq_true rfl⟩ rfl hl.1 rfl (Nat.le_of_ble_eq_true rfl) (kd kX6_findEntries_0 2 rfl)) (fun H locs hP hS => ?_)
  refine lv_aload_n C.1 C.2.1 (kd kX6_findEntries_0 3 rfl) rfl (lv_at hl 0 rfl) ?_
  refine lv_iconst (v := (0 : Int32)) C.1 C.2.1 (kd kX6_findEntries_0 4 rfl) (by decide) ?_
  obtain ⟨σ2, eσ2, hf⟩ := fL_some hf
  refine fl_put (j := 4) C hP hS rfl rfl (Nat.le_of_ble_eq_true rfl) rfl inX6 tyX6 tyX6_ok nmX6 (Nat.le_of_ble_eq_true rfl) tw_254 rfl rfl rfl (Nat.le_of_ble_eq_true rfl) (kd kX6_findEntries_0 5 rfl) (fun H locs hP hS => ?_)
  have hP : fH Γ σ2 H := by rw [eσ2]; exact hP
  refine lv_iconst (v := (0 : Int32)) C.1 C.2.1 (kd kX6_findEntries_0 6 rfl) (by decide) ?_
  refine lv_istore_n (lv' := [(1, .int (0 : Int32)), (0, .ref (Γ.1 157))]) C.1 C.2.1 (kd kX6_findEntries_0 7 rfl) rfl hl (Nat.le_of_ble_eq_true rfl) rfl (fun ls hl => ?_)
  exact w_X6_findEntries_b14 C fN ((0 : Int32)) σ2 H locs ls hf hP hS (lv_sub hl [1, 0] rfl)
def f_X6_makeEntry (b1 : Nat) (x2 : Int32) (σ : fS) : Option (Int32 × fS) := fcall (f_X5_at 159 12 6 x2 (0 : Int32) σ) (fun r1_ σ1 => fcall (f_X5_at 159 12 6 x2 (1 : Int32) σ1) (fun r2_ σ2 => fcall (f_X5_at 159 12 6 x2 (2 : Int32) σ2) (fun r3_ σ3 => fcall (f_X5_at 159 12 6 x2 (3 : Int32) σ3) (fun r4_ σ4 => fcall (f_X5_at 159 12 6 x2 (4 : Int32) σ4) (fun r5_ σ5 => (if r5_ = (99 : Int32) then fcall (f_X3_enterCrossing b1 r1_ r2_ r3_ r4_ σ5) (fun r6_ σ6 => some (r6_, σ6)) else if r5_ = (116 : Int32) then fcall (f_X3_changeTide b1 r1_ r2_ σ5) (fun r7_ σ7 => some (r7_, σ7)) else if r5_ = (118 : Int32) then fcall (f_X3_enterVehicle b1 r1_ r2_ r3_ σ5) (fun r8_ σ8 => some (r8_, σ8)) else fcall (f_X3_changeWind b1 r1_ r2_ σ5) (fun r9_ σ9 => some (r9_, σ9))))))))
set_option maxRecDepth 100000 in
set_option maxHeartbeats 4000000 in
theorem m_X6_makeEntry {Γ : fGm} (hI : fI Γ) (l : Launch) {b1 : Nat} {x2 : Int32} (h1 : fD b1 = (3, 0, 0)) {σ : fS} {r : Int32} {σ' : fS} (hf : f_X6_makeEntry b1 x2 σ = some (r, σ')) : Met l yX6_makeEntry (.code yX6_makeEntry cX6_makeEntry 7 (some .int) :: lw_g) ({ frames := 3, cells := 0, slots := 0, locals := 72 } : Room) (fPre Γ [.ref (Γ.1 157), .ref (Γ.1 b1), .int x2] σ) (fQi Γ r σ') 0 0 (fAd Γ) := by
  refine fl_enter (own := RX6) hI (by decide +kernel) rfl (Nat.le_of_ble_eq_true rfl) ?_
  intro p e s m args below meth c ls C hl hP hS
  have hl : lv_has ls 7 [(0, .ref (Γ.1 157)), (1, .ref (Γ.1 b1)), (2, .int x2)] := hl
  obtain ⟨H, hH⟩ : ∃ H, H = s.heap := ⟨_, rfl⟩
  obtain ⟨locs, hL⟩ : ∃ L : List Loc, L = [] := ⟨_, rfl⟩
  have hP : fH Γ σ H := by rw [hH]; exact hP
  have hS : va_S (fAd Γ) s.heap H locs := by rw [hH, hL]; exact hS
  suffices hw : W p l e ({ frames := 3, cells := 0, slots := 0, locals := 72 } : Room) s m args below meth c H locs 0 0 (MQ below (fQi Γ r σ') args s 0 0 (fAd Γ)) (F0 m 0 ls []) by rw [hH, hL] at hw; exact hw
  unfold f_X6_makeEntry at hf
  refine lv_aload_n C.1 C.2.1 (kd kX6_makeEntry_0 0 rfl) rfl (lv_at hl 0 rfl) ?_
  refine fl_get (j := 3) (v := .ref (Γ.1 159)) C hP rfl (Nat.le_of_ble_eq_true rfl) rfl inX6 (Nat.le_of_ble_eq_true rfl) tw_253 rfl (kd kX6_makeEntry_0 1 rfl) ?_
  refine lv_iload_n C.1 C.2.1 (kd kX6_makeEntry_0 2 rfl) rfl (lv_at hl 2 rfl) ?_
  refine lv_iconst (v := (0 : Int32)) C.1 C.2.1 (kd kX6_makeEntry_0 3 rfl) (by decide) ?_
  obtain ⟨r1_, σ1, hσ1, hf⟩ := fcall_some hf
  refine fl_i hS (fl_runV (As := [.int x2, .int (0 : Int32)]) (rest := []) C hP rfl (Nat.le_of_ble_eq_true rfl) rfl (m_X5_at C.2.2.2.2.2.2.2.2 l rfl hσ1) (fgV tw_505 tw_418 tw_419 tw_69 tw_420) hd_X5_at ⟨rfl, rfl, Nat.le_of_ble_eq_true rfl, Nat.le_of_ble_eq_true rfl⟩ rfl hl.1 rfl (Nat.le_of_ble_eq_true rfl) (kd kX6_makeEntry_0 4 rfl)) (fun H locs hP hS => ?_)
  refine lv_istore_n (lv' := [(3, .int r1_), (0, .ref (Γ.1 157)), (1, .ref (Γ.1 b1)), (2, .int x2)]) C.1 C.2.1 (kd kX6_makeEntry_0 5 rfl) rfl hl (Nat.le_of_ble_eq_true rfl) rfl (fun ls hl => ?_)
  refine lv_aload_n C.1 C.2.1 (kd kX6_makeEntry_0 6 rfl) rfl (lv_at hl 1 rfl) ?_
  refine fl_get (j := 3) (v := .ref (Γ.1 159)) C hP rfl (Nat.le_of_ble_eq_true rfl) rfl inX6 (Nat.le_of_ble_eq_true rfl) tw_253 rfl (kd kX6_makeEntry_0 7 rfl) ?_
  refine lv_iload_n C.1 C.2.1 (kd kX6_makeEntry_0 8 rfl) rfl (lv_at hl 3 rfl) ?_
  refine lv_iconst (v := (1 : Int32)) C.1 C.2.1 (kd kX6_makeEntry_0 9 rfl) (by decide) ?_
  obtain ⟨r2_, σ2, hσ2, hf⟩ := fcall_some hf
  refine fl_i hS (fl_runV (As := [.int x2, .int (1 : Int32)]) (rest := []) C hP rfl (Nat.le_of_ble_eq_true rfl) rfl (m_X5_at C.2.2.2.2.2.2.2.2 l rfl hσ2) (fgV tw_505 tw_418 tw_419 tw_69 tw_420) hd_X5_at ⟨rfl, rfl, Nat.le_of_ble_eq_true rfl, Nat.le_of_ble_eq_true rfl⟩ rfl hl.1 rfl (Nat.le_of_ble_eq_true rfl) (kd kX6_makeEntry_0 10 rfl)) (fun H locs hP hS => ?_)
  refine lv_istore (lv' := [(4, .int r2_), (3, .int r1_), (0, .ref (Γ.1 157)), (1, .ref (Γ.1 b1)), (2, .int x2)]) C.1 C.2.1 (kd kX6_makeEntry_0 11 rfl) hl (Nat.le_of_ble_eq_true rfl) rfl (fun ls hl => ?_)
  refine lv_aload_n C.1 C.2.1 (kd kX6_makeEntry_0 12 rfl) rfl (lv_at hl 2 rfl) ?_
  refine fl_get (j := 3) (v := .ref (Γ.1 159)) C hP rfl (Nat.le_of_ble_eq_true rfl) rfl inX6 (Nat.le_of_ble_eq_true rfl) tw_253 rfl (kd kX6_makeEntry_0 13 rfl) ?_
  refine lv_iload_n C.1 C.2.1 (kd kX6_makeEntry_0 14 rfl) rfl (lv_at hl 4 rfl) ?_
  refine lv_iconst (v := (2 : Int32)) C.1 C.2.1 (kd kX6_makeEntry_0 15 rfl) (by decide) ?_
  obtain ⟨r3_, σ3, hσ3, hf⟩ := fcall_some hf
  refine fl_i hS (fl_runV (As := [.int x2, .int (2 : Int32)]) (rest := []) C hP rfl (Nat.le_of_ble_eq_true rfl) rfl (m_X5_at C.2.2.2.2.2.2.2.2 l rfl hσ3) (fgV tw_505 tw_418 tw_419 tw_69 tw_420) hd_X5_at ⟨rfl, rfl, Nat.le_of_ble_eq_true rfl, Nat.le_of_ble_eq_true rfl⟩ rfl hl.1 rfl (Nat.le_of_ble_eq_true rfl) (kd kX6_makeEntry_0 16 rfl)) (fun H locs hP hS => ?_)
  refine lv_istore (lv' := [(5, .int r3_), (4, .int r2_), (3, .int r1_), (0, .ref (Γ.1 157)), (1, .ref (Γ.1 b1)), (2, .int x2)]) C.1 C.2.1 (kd kX6_makeEntry_0 17 rfl) hl (Nat.le_of_ble_eq_true rfl) rfl (fun ls hl => ?_)
  refine lv_aload_n C.1 C.2.1 (kd kX6_makeEntry_0 18 rfl) rfl (lv_at hl 3 rfl) ?_
  refine fl_get (j := 3) (v := .ref (Γ.1 159)) C hP rfl (Nat.le_of_ble_eq_true rfl) rfl inX6 (Nat.le_of_ble_eq_true rfl) tw_253 rfl (kd kX6_makeEntry_0 19 rfl) ?_
  refine lv_iload_n C.1 C.2.1 (kd kX6_makeEntry_0 20 rfl) rfl (lv_at hl 5 rfl) ?_
  refine lv_iconst (v := (3 : Int32)) C.1 C.2.1 (kd kX6_makeEntry_0 21 rfl) (by decide) ?_
  obtain ⟨r4_, σ4, hσ4, hf⟩ := fcall_some hf
  refine fl_i hS (fl_runV (As := [.int x2, .int (3 : Int32)]) (rest := []) C hP rfl (Nat.le_of_ble_eq_true rfl) rfl (m_X5_at C.2.2.2.2.2.2.2.2 l rfl hσ4) (fgV tw_505 tw_418 tw_419 tw_69 tw_420) hd_X5_at ⟨rfl, rfl, Nat.le_of_ble_eq_true rfl, Nat.le_of_ble_eq_true rfl⟩ rfl hl.1 rfl (Nat.le_of_ble_eq_true rfl) (kd kX6_makeEntry_0 22 rfl)) (fun H locs hP hS => ?_)
  refine lv_istore (lv' := [(6, .int r4_), (5, .int r3_), (4, .int r2_), (3, .int r1_), (0, .ref (Γ.1 157)), (1, .ref (Γ.1 b1)), (2, .int x2)]) C.1 C.2.1 (kd kX6_makeEntry_0 23 rfl) hl (Nat.le_of_ble_eq_true rfl) rfl (fun ls hl => ?_)
  refine lv_aload_n C.1 C.2.1 (kd kX6_makeEntry_0 24 rfl) rfl (lv_at hl 4 rfl) ?_
  refine fl_get (j := 3) (v := .ref (Γ.1 159)) C hP rfl (Nat.le_of_ble_eq_true rfl) rfl inX6 (Nat.le_of_ble_eq_true rfl) tw_253 rfl (kd kX6_makeEntry_0 25 rfl) ?_
  refine lv_iload_n C.1 C.2.1 (kd kX6_makeEntry_0 26 rfl) rfl (lv_at hl 6 rfl) ?_
  refine lv_iconst (v := (4 : Int32)) C.1 C.2.1 (kd kX6_makeEntry_0 27 rfl) (by decide) ?_
  obtain ⟨r5_, σ5, hσ5, hf⟩ := fcall_some hf
  refine fl_i hS (fl_runV (As := [.int x2, .int (4 : Int32)]) (rest := []) C hP rfl (Nat.le_of_ble_eq_true rfl) rfl (m_X5_at C.2.2.2.2.2.2.2.2 l rfl hσ5) (fgV tw_505 tw_418 tw_419 tw_69 tw_420) hd_X5_at ⟨rfl, rfl, Nat.le_of_ble_eq_true rfl, Nat.le_of_ble_eq_true rfl⟩ rfl hl.1 rfl (Nat.le_of_ble_eq_true rfl) (kd kX6_makeEntry_0 28 rfl)) (fun H locs hP hS => ?_)
  by_cases q0 : r5_ = (99 : Int32)
  · have hf := fif_pos q0 hf
    refine lv_lookup (tgt := 88) C.1 C.2.1 (kd kX6_makeEntry_0 29 rfl) (by decide) (by rw [q0] <;> rfl) (by decide) ?_
    refine lv_aload_n C.1 C.2.1 (kd kX6_makeEntry_0 30 rfl) rfl (lv_at hl 5 rfl) ?_
    refine lv_iload_n C.1 C.2.1 (kd kX6_makeEntry_0 31 rfl) rfl (lv_at hl 3 rfl) ?_
    refine lv_iload C.1 C.2.1 (kd kX6_makeEntry_0 32 rfl) (lv_at hl 2 rfl) ?_
    refine lv_iload C.1 C.2.1 (kd kX6_makeEntry_0 33 rfl) (lv_at hl 1 rfl) ?_
    refine lv_iload C.1 C.2.1 (kd kX6_makeEntry_0 34 rfl) (lv_at hl 0 rfl) ?_
    obtain ⟨r6_, σ6, hσ6, hf⟩ := fcall_some hf
    refine fl_i hS (fl_runV (As := [.int r1_, .int r2_, .int r3_, .int r4_]) (rest := []) C hP (fe_P h1) (fD_lt h1) rfl (m_X3_enterCrossing C.2.2.2.2.2.2.2.2 l h1 hσ6) (fgV tw_506 tw_374 tw_375 tw_68 tw_376) hd_X3_enterCrossing ⟨rfl, rfl, Nat.le_of_ble_eq_true rfl, Nat.le_of_ble_eq_true rfl⟩ rfl hl.1 rfl (Nat.le_of_ble_eq_true rfl) (kd kX6_makeEntry_0 35 rfl)) (fun H locs hP hS => ?_)
    exact fl_iret C hP hS hf (kd kX6_makeEntry_0 36 rfl)
  have hf := fif_neg q0 hf
  have z0 : ¬ r5_.toInt = 99 := fi_ne q0 (by decide)
  by_cases q1 : r5_ = (116 : Int32)
  · have hf := fif_pos q1 hf
    refine lv_lookup (tgt := 110) C.1 C.2.1 (kd kX6_makeEntry_0 29 rfl) (by decide) (by rw [q1] <;> rfl) (by decide) ?_
    refine lv_aload_n C.1 C.2.1 (kd kX6_makeEntry_0 43 rfl) rfl (lv_at hl 5 rfl) ?_
    refine lv_iload_n C.1 C.2.1 (kd kX6_makeEntry_0 44 rfl) rfl (lv_at hl 3 rfl) ?_
    refine lv_iload C.1 C.2.1 (kd kX6_makeEntry_0 45 rfl) (lv_at hl 2 rfl) ?_
    obtain ⟨r7_, σ7, hσ7, hf⟩ := fcall_some hf
    refine fl_i hS (fl_runV (As := [.int r1_, .int r2_]) (rest := []) C hP (fe_P h1) (fD_lt h1) rfl (m_X3_changeTide C.2.2.2.2.2.2.2.2 l h1 hσ7) (fgV tw_508 tw_435 tw_436 tw_68 tw_437) hd_X3_changeTide ⟨rfl, rfl, Nat.le_of_ble_eq_true rfl, Nat.le_of_ble_eq_true rfl⟩ rfl hl.1 rfl (Nat.le_of_ble_eq_true rfl) (kd kX6_makeEntry_0 46 rfl)) (fun H locs hP hS => ?_)
    exact fl_iret C hP hS hf (kd kX6_makeEntry_0 47 rfl)
  have hf := fif_neg q1 hf
  have z1 : ¬ r5_.toInt = 116 := fi_ne q1 (by decide)
  by_cases q2 : r5_ = (118 : Int32)
  · have hf := fif_pos q2 hf
    refine lv_lookup (tgt := 100) C.1 C.2.1 (kd kX6_makeEntry_0 29 rfl) (by decide) (by rw [q2] <;> rfl) (by decide) ?_
    refine lv_aload_n C.1 C.2.1 (kd kX6_makeEntry_0 37 rfl) rfl (lv_at hl 5 rfl) ?_
    refine lv_iload_n C.1 C.2.1 (kd kX6_makeEntry_0 38 rfl) rfl (lv_at hl 3 rfl) ?_
    refine lv_iload C.1 C.2.1 (kd kX6_makeEntry_0 39 rfl) (lv_at hl 2 rfl) ?_
    refine lv_iload C.1 C.2.1 (kd kX6_makeEntry_0 40 rfl) (lv_at hl 1 rfl) ?_
    obtain ⟨r8_, σ8, hσ8, hf⟩ := fcall_some hf
    refine fl_i hS (fl_runV (As := [.int r1_, .int r2_, .int r3_]) (rest := []) C hP (fe_P h1) (fD_lt h1) rfl (m_X3_enterVehicle C.2.2.2.2.2.2.2.2 l h1 hσ8) (fgV tw_507 tw_386 tw_387 tw_68 tw_388) hd_X3_enterVehicle ⟨rfl, rfl, Nat.le_of_ble_eq_true rfl, Nat.le_of_ble_eq_true rfl⟩ rfl hl.1 rfl (Nat.le_of_ble_eq_true rfl) (kd kX6_makeEntry_0 41 rfl)) (fun H locs hP hS => ?_)
    exact fl_iret C hP hS hf (kd kX6_makeEntry_0 42 rfl)
  have hf := fif_neg q2 hf
  have z2 : ¬ r5_.toInt = 118 := fi_ne q2 (by decide)
  refine lv_lookup (tgt := 118) C.1 C.2.1 (kd kX6_makeEntry_0 29 rfl) (by decide) (by show Op.lookupswitch.offset [(99, 36), (116, 58), (118, 48)] 66 _ = 66; rw [Op.lookupswitch.offset_cons, if_neg (fun z => z0 z.symm), Op.lookupswitch.offset_cons, if_neg (fun z => z1 z.symm), Op.lookupswitch.offset_cons, if_neg (fun z => z2 z.symm), Op.lookupswitch.offset_nil]) (by decide) ?_
  refine lv_aload_n C.1 C.2.1 (kd kX6_makeEntry_0 48 rfl) rfl (lv_at hl 5 rfl) ?_
  refine lv_iload_n C.1 C.2.1 (kd kX6_makeEntry_0 49 rfl) rfl (lv_at hl 3 rfl) ?_
  refine lv_iload C.1 C.2.1 (kd kX6_makeEntry_0 50 rfl) (lv_at hl 2 rfl) ?_
  obtain ⟨r9_, σ9, hσ9, hf⟩ := fcall_some hf
  refine fl_i hS (fl_runV (As := [.int r1_, .int r2_]) (rest := []) C hP (fe_P h1) (fD_lt h1) rfl (m_X3_changeWind C.2.2.2.2.2.2.2.2 l h1 hσ9) (fgV tw_509 tw_443 tw_444 tw_68 tw_445) hd_X3_changeWind ⟨rfl, rfl, Nat.le_of_ble_eq_true rfl, Nat.le_of_ble_eq_true rfl⟩ rfl hl.1 rfl (Nat.le_of_ble_eq_true rfl) (kd kX6_makeEntry_0 51 rfl)) (fun H locs hP hS => ?_)
  exact fl_iret C hP hS hf (kd kX6_makeEntry_0 52 rfl)
def f_X6_makeEntries_b29 (b1 : Nat) : Nat → Int32 → fS → Option (Int32 × fS)
  | 0, _, _ => none
  | n_ + 1, v2, σ => fcall (f_X5_size 159 12 6 σ) (fun r1_ σ1 => (if r1_ ≤ v2 then fcall (f_X5_size 159 12 6 σ1) (fun r2_ σ2 => some (r2_, σ2)) else fcall (f_X6_makeEntry b1 v2 σ1) (fun r3_ σ3 => fcall (f_X7_isError r3_ σ3) (fun r4_ σ4 => (if r4_ = 0 then (fun v2 σ => f_X6_makeEntries_b29 b1 n_ v2 σ) ((v2 + (1 : Int32))) σ4 else fcall (f_X5_at 159 12 6 v2 (5 : Int32) σ4) (fun r5_ σ5 => fL (fu σ5 157 1 r5_) (fun σ6 => some ((-10005 : Int32), σ6))))))))
set_option maxRecDepth 100000 in
set_option maxHeartbeats 4000000 in
theorem w_X6_makeEntries_b29 {b1 : Nat} {r : Int32} {σ' : fS} (h1 : fD b1 = (3, 0, 0))  (C : fC Γ p s m args meth c cX6_makeEntries (some .int) RX6 3) : ∀ (n_ : Nat) (v2 : Int32) (σ : fS) (H : Heap) (locs : List Loc) (ls : Array Slot), f_X6_makeEntries_b29 b1 n_ v2 σ = some (r, σ') → fH Γ σ H → va_S (fAd Γ) s.heap H locs → lv_has ls 3 [(0, .ref (Γ.1 157)), (1, .ref (Γ.1 b1)), (2, .int v2)] → W p l e ({ frames := 4, cells := 0, slots := 0, locals := 98 } : Room) s m args below meth c H locs 0 0 (MQ below (fQi Γ r σ') args s 0 0 (fAd Γ)) (F0 m 29 ls []) := by
  intro n_
  induction n_ with
  | zero =>
    intro v2 σ H locs ls hf
    cases hf
  | succ n_ ih =>
    intro v2 σ H locs ls hf hP hS hl
    have hf : fcall (f_X5_size 159 12 6 σ) (fun r1_ σ1 => (if r1_ ≤ v2 then fcall (f_X5_size 159 12 6 σ1) (fun r2_ σ2 => some (r2_, σ2)) else fcall (f_X6_makeEntry b1 v2 σ1) (fun r3_ σ3 => fcall (f_X7_isError r3_ σ3) (fun r4_ σ4 => (if r4_ = 0 then (fun v2 σ => f_X6_makeEntries_b29 b1 n_ v2 σ) ((v2 + (1 : Int32))) σ4 else fcall (f_X5_at 159 12 6 v2 (5 : Int32) σ4) (fun r5_ σ5 => fL (fu σ5 157 1 r5_) (fun σ6 => some ((-10005 : Int32), σ6)))))))) = some (r, σ') := hf
    have hK29 := ih
    refine lv_iload_n C.1 C.2.1 (kd kX6_makeEntries_0 15 rfl) rfl (lv_at hl 2 rfl) ?_
    refine lv_aload_n C.1 C.2.1 (kd kX6_makeEntries_0 16 rfl) rfl (lv_at hl 0 rfl) ?_
    refine fl_get (j := 3) (v := .ref (Γ.1 159)) C hP rfl (Nat.le_of_ble_eq_true rfl) rfl inX6 (Nat.le_of_ble_eq_true rfl) tw_253 rfl (kd kX6_makeEntries_0 17 rfl) ?_
    obtain ⟨r1_, σ1, hσ1, hf⟩ := fcall_some hf
    refine fl_i hS (fl_runV (As := []) (rest := [.int v2]) C hP rfl (Nat.le_of_ble_eq_true rfl) rfl (m_X5_size C.2.2.2.2.2.2.2.2 l rfl hσ1) (fgV tw_500 tw_414 tw_415 tw_69 tw_416) hd_X5_size ⟨rfl, rfl, Nat.le_of_ble_eq_true rfl, Nat.le_of_ble_eq_true rfl⟩ rfl hl.1 rfl (Nat.le_of_ble_eq_true rfl) (kd kX6_makeEntries_0 18 rfl)) (fun H locs hP hS => ?_)
    refine lv_icmp_ge (tgt := 75) C.1 C.2.1 (kd kX6_makeEntries_0 19 rfl) (by decide) (fun q => ?_) (fun q => ?_)
    · have hf := fif_pos q hf
      refine lv_aload_n C.1 C.2.1 (kd kX6_makeEntries_0 37 rfl) rfl (lv_at hl 0 rfl) ?_
      refine fl_get (j := 3) (v := .ref (Γ.1 159)) C hP rfl (Nat.le_of_ble_eq_true rfl) rfl inX6 (Nat.le_of_ble_eq_true rfl) tw_253 rfl (kd kX6_makeEntries_0 38 rfl) ?_
      obtain ⟨r2_, σ2, hσ2, hf⟩ := fcall_some hf
      refine fl_i hS (fl_runV (As := []) (rest := []) C hP rfl (Nat.le_of_ble_eq_true rfl) rfl (m_X5_size C.2.2.2.2.2.2.2.2 l rfl hσ2) (fgV tw_500 tw_414 tw_415 tw_69 tw_416) hd_X5_size ⟨rfl, rfl, Nat.le_of_ble_eq_true rfl, Nat.le_of_ble_eq_true rfl⟩ rfl hl.1 rfl (Nat.le_of_ble_eq_true rfl) (kd kX6_makeEntries_0 39 rfl)) (fun H locs hP hS => ?_)
      exact fl_iret C hP hS hf (kd kX6_makeEntries_0 40 rfl)
    have hf := fif_neg q hf
    refine lv_aload_n C.1 C.2.1 (kd kX6_makeEntries_0 20 rfl) rfl (lv_at hl 0 rfl) ?_
    refine lv_aload_n C.1 C.2.1 (kd kX6_makeEntries_0 21 rfl) rfl (lv_at hl 1 rfl) ?_
    refine lv_iload_n C.1 C.2.1 (kd kX6_makeEntries_0 22 rfl) rfl (lv_at hl 2 rfl) ?_
    obtain ⟨r3_, σ3, hσ3, hf⟩ := fcall_some hf
    refine fl_i hS (fl_runV (As := [.ref (Γ.1 b1), .int v2]) (rest := []) C hP rfl (Nat.le_of_ble_eq_true rfl) rfl (m_X6_makeEntry C.2.2.2.2.2.2.2.2 l h1 hσ3) (fgV tw_501 tw_503 tw_6 tw_73 tw_504) hd_X6_makeEntry ⟨rfl, rfl, Nat.le_of_ble_eq_true rfl, Nat.le_of_ble_eq_true rfl⟩ rfl hl.1 rfl (Nat.le_of_ble_eq_true rfl) (kd kX6_makeEntries_0 23 rfl)) (fun H locs hP hS => ?_)
    obtain ⟨r4_, σ4, hσ4, hf⟩ := fcall_some hf
    refine fl_i hS (fl_runN (As := [.int r3_]) (rest := []) C hP (m_X7_isError C.2.2.2.2.2.2.2.2 l  hσ4) (fgN tw_351) C.2.2.2.2.2.2.2.1.2.2.2 tw_67 tw_350 hs_X7_isError ⟨rfl, rfl, Nat.le_of_ble_eq_true rfl, Nat.le_of_ble_eq_true rfl⟩ rfl hl.1 rfl (Nat.le_of_ble_eq_true rfl) (kd kX6_makeEntries_0 24 rfl)) (fun H locs hP hS => ?_)
    refine lv_if_eq (tgt := 69) C.1 C.2.1 (kd kX6_makeEntries_0 25 rfl) (by decide) (fun q => ?_) (fun q => ?_)
    · have hf := fif_pos q hf
      refine lv_iinc (v := (v2 + (1 : Int32))) (lv' := [(2, .int (v2 + (1 : Int32))), (0, .ref (Γ.1 157)), (1, .ref (Γ.1 b1))]) C.1 C.2.1 (kd kX6_makeEntries_0 35 rfl) hl (k := 2) rfl rfl (Nat.le_of_ble_eq_true rfl) rfl (fun ls hl => ?_)
      refine lv_goto (tgt := 29) C.1 C.2.1 (kd kX6_makeEntries_0 36 rfl) (by decide) ?_
      exact hK29 ((v2 + (1 : Int32))) σ4 H locs ls hf hP hS (lv_sub hl [1, 2, 0] rfl)
    have hf := fif_neg q hf
    refine lv_aload_n C.1 C.2.1 (kd kX6_makeEntries_0 26 rfl) rfl (lv_at hl 0 rfl) ?_
    refine lv_aload_n C.1 C.2.1 (kd kX6_makeEntries_0 27 rfl) rfl (lv_at hl 0 rfl) ?_
    refine fl_get (j := 3) (v := .ref (Γ.1 159)) C hP rfl (Nat.le_of_ble_eq_true rfl) rfl inX6 (Nat.le_of_ble_eq_true rfl) tw_253 rfl (kd kX6_makeEntries_0 28 rfl) ?_
    refine lv_iload_n C.1 C.2.1 (kd kX6_makeEntries_0 29 rfl) rfl (lv_at hl 2 rfl) ?_
    refine lv_iconst (v := (5 : Int32)) C.1 C.2.1 (kd kX6_makeEntries_0 30 rfl) (by decide) ?_
    obtain ⟨r5_, σ5, hσ5, hf⟩ := fcall_some hf
    refine fl_i hS (fl_runV (As := [.int v2, .int (5 : Int32)]) (rest := [.ref (Γ.1 157)]) C hP rfl (Nat.le_of_ble_eq_true rfl) rfl (m_X5_at C.2.2.2.2.2.2.2.2 l rfl hσ5) (fgV tw_505 tw_418 tw_419 tw_69 tw_420) hd_X5_at ⟨rfl, rfl, Nat.le_of_ble_eq_true rfl, Nat.le_of_ble_eq_true rfl⟩ rfl hl.1 rfl (Nat.le_of_ble_eq_true rfl) (kd kX6_makeEntries_0 31 rfl)) (fun H locs hP hS => ?_)
    obtain ⟨σ6, eσ6, hf⟩ := fL_some hf
    refine fl_put (j := 1) C hP hS rfl rfl (Nat.le_of_ble_eq_true rfl) rfl inX6 tyX6 tyX6_ok nmX6 (Nat.le_of_ble_eq_true rfl) tw_250 rfl rfl rfl (Nat.le_of_ble_eq_true rfl) (kd kX6_makeEntries_0 32 rfl) (fun H locs hP hS => ?_)
    have hP : fH Γ σ6 H := by rw [eσ6]; exact hP
    refine lv_sipush (v := (-10005 : Int32)) C.1 C.2.1 (kd kX6_makeEntries_0 33 rfl) (by decide) ?_
    exact fl_iret C hP hS hf (kd kX6_makeEntries_0 34 rfl)
def f_X6_makeEntries (b1 : Nat) (σ : fS) : Option (Int32 × fS) := fcall (f_X6_findEntries σ) (fun r1_ σ1 => fL (fu σ1 157 1 r1_) (fun σ2 => fL (fu σ2 157 0 (0 : Int32)) (fun σ3 => (if (σ3 157 1) = (-10004 : Int32) then f_X6_makeEntries_b29 b1 fN ((0 : Int32)) σ3 else some ((-10002 : Int32), σ3)))))
set_option maxRecDepth 100000 in
set_option maxHeartbeats 4000000 in
theorem m_X6_makeEntries {Γ : fGm} (hI : fI Γ) (l : Launch) {b1 : Nat} (h1 : fD b1 = (3, 0, 0)) {σ : fS} {r : Int32} {σ' : fS} (hf : f_X6_makeEntries b1 σ = some (r, σ')) : Met l yX6_makeEntries (.code yX6_makeEntries cX6_makeEntries 3 (some .int) :: lw_g) ({ frames := 4, cells := 0, slots := 0, locals := 98 } : Room) (fPre Γ [.ref (Γ.1 157), .ref (Γ.1 b1)] σ) (fQi Γ r σ') 0 0 (fAd Γ) := by
  refine fl_enter (own := RX6) hI (by decide +kernel) rfl (Nat.le_of_ble_eq_true rfl) ?_
  intro p e s m args below meth c ls C hl hP hS
  have hl : lv_has ls 3 [(0, .ref (Γ.1 157)), (1, .ref (Γ.1 b1))] := hl
  obtain ⟨H, hH⟩ : ∃ H, H = s.heap := ⟨_, rfl⟩
  obtain ⟨locs, hL⟩ : ∃ L : List Loc, L = [] := ⟨_, rfl⟩
  have hP : fH Γ σ H := by rw [hH]; exact hP
  have hS : va_S (fAd Γ) s.heap H locs := by rw [hH, hL]; exact hS
  suffices hw : W p l e ({ frames := 4, cells := 0, slots := 0, locals := 98 } : Room) s m args below meth c H locs 0 0 (MQ below (fQi Γ r σ') args s 0 0 (fAd Γ)) (F0 m 0 ls []) by rw [hH, hL] at hw; exact hw
  unfold f_X6_makeEntries at hf
  refine lv_aload_n C.1 C.2.1 (kd kX6_makeEntries_0 0 rfl) rfl (lv_at hl 0 rfl) ?_
  refine lv_aload_n C.1 C.2.1 (kd kX6_makeEntries_0 1 rfl) rfl (lv_at hl 0 rfl) ?_
  obtain ⟨r1_, σ1, hσ1, hf⟩ := fcall_some hf
  refine fl_i hS (fl_runV (As := []) (rest := [.ref (Γ.1 157)]) C hP rfl (Nat.le_of_ble_eq_true rfl) rfl (m_X6_findEntries C.2.2.2.2.2.2.2.2 l  hσ1) (fgV tw_471 tw_473 tw_1 tw_73 tw_474) hd_X6_findEntries ⟨rfl, rfl, Nat.le_of_ble_eq_true rfl, Nat.le_of_ble_eq_true rfl⟩ rfl hl.1 rfl (Nat.le_of_ble_eq_true rfl) (kd kX6_makeEntries_0 2 rfl)) (fun H locs hP hS => ?_)
  obtain ⟨σ2, eσ2, hf⟩ := fL_some hf
  refine fl_put (j := 1) C hP hS rfl rfl (Nat.le_of_ble_eq_true rfl) rfl inX6 tyX6 tyX6_ok nmX6 (Nat.le_of_ble_eq_true rfl) tw_250 rfl rfl rfl (Nat.le_of_ble_eq_true rfl) (kd kX6_makeEntries_0 3 rfl) (fun H locs hP hS => ?_)
  have hP : fH Γ σ2 H := by rw [eσ2]; exact hP
  refine lv_aload_n C.1 C.2.1 (kd kX6_makeEntries_0 4 rfl) rfl (lv_at hl 0 rfl) ?_
  refine lv_iconst (v := (0 : Int32)) C.1 C.2.1 (kd kX6_makeEntries_0 5 rfl) (by decide) ?_
  obtain ⟨σ3, eσ3, hf⟩ := fL_some hf
  refine fl_put (j := 0) C hP hS rfl rfl (Nat.le_of_ble_eq_true rfl) rfl inX6 tyX6 tyX6_ok nmX6 (Nat.le_of_ble_eq_true rfl) tw_248 rfl rfl rfl (Nat.le_of_ble_eq_true rfl) (kd kX6_makeEntries_0 6 rfl) (fun H locs hP hS => ?_)
  have hP : fH Γ σ3 H := by rw [eσ3]; exact hP
  refine lv_aload_n C.1 C.2.1 (kd kX6_makeEntries_0 7 rfl) rfl (lv_at hl 0 rfl) ?_
  refine fl_get (j := 1) (v := .int (σ3 157 1)) C hP rfl (Nat.le_of_ble_eq_true rfl) rfl inX6 (Nat.le_of_ble_eq_true rfl) tw_250 rfl (kd kX6_makeEntries_0 8 rfl) ?_
  refine lv_sipush (v := (-10004 : Int32)) C.1 C.2.1 (kd kX6_makeEntries_0 9 rfl) (by decide) ?_
  refine lv_icmp_eq (tgt := 27) C.1 C.2.1 (kd kX6_makeEntries_0 10 rfl) (by decide) (fun q => ?_) (fun q => ?_)
  · have hf := fif_pos q hf
    refine lv_iconst (v := (0 : Int32)) C.1 C.2.1 (kd kX6_makeEntries_0 13 rfl) (by decide) ?_
    refine lv_istore_n (lv' := [(2, .int (0 : Int32)), (0, .ref (Γ.1 157)), (1, .ref (Γ.1 b1))]) C.1 C.2.1 (kd kX6_makeEntries_0 14 rfl) rfl hl (Nat.le_of_ble_eq_true rfl) rfl (fun ls hl => ?_)
    exact w_X6_makeEntries_b29 h1 C fN ((0 : Int32)) σ3 H locs ls hf hP hS (lv_sub hl [1, 2, 0] rfl)
  have hf := fif_neg q hf
  refine lv_sipush (v := (-10002 : Int32)) C.1 C.2.1 (kd kX6_makeEntries_0 11 rfl) (by decide) ?_
  exact fl_iret C hP hS hf (kd kX6_makeEntries_0 12 rfl)
end GM

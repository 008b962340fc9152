section GM
variable {p : Program} {l : Launch} {e : Env} {s : State} {m : MethodId} {args : Array Value} {below : List Frame} {meth : Method} {c : Code} {Γ : fGm}
def f_X8_in (x0 : Int32) (x1 : Int32) (x2 : Int32) (σ : fS) : Option (Int32 × fS) := (if x0 < x1 then some ((0 : Int32), σ) else (if x2 < x0 then some ((0 : Int32), σ) else some ((1 : Int32), σ)))
set_option maxRecDepth 100000 in
set_option maxHeartbeats 4000000 in
theorem m_X8_in {Γ : fGm} (hI : fI Γ) (l : Launch) {x0 : Int32} {x1 : Int32} {x2 : Int32} {σ : fS} {r : Int32} {σ' : fS} (hf : f_X8_in x0 x1 x2 σ = some (r, σ')) : Met l yX8_in (.code yX8_in cX8_in 3 (some .boolean) :: lw_g) ({ frames := 0, cells := 0, slots := 0, locals := 0 } : Room) (fPre Γ [.int x0, .int x1, .int x2] σ) (fQi Γ r σ') 0 0 (fAd Γ) := by
  refine fl_enter (own := RX8) hI (by decide +kernel) rfl (Nat.le_of_ble_eq_true rfl) ?_
  intro p e s m args below meth c ls C hl hP hS
  have hl : lv_has ls 3 [(0, .int x0), (1, .int x1), (2, .int x2)] := hl
  obtain ⟨H, hH⟩ : ∃ H, H = s.heap := ⟨_, rfl⟩
  obtain ⟨locs, hL⟩ : ∃ L : List Loc, L = [] := ⟨_, rfl⟩
  have hP : fH Γ σ H := by rw [hH]; exact hP
  have hS : va_S (fAd Γ) s.heap H locs := by rw [hH, hL]; exact hS
  suffices hw : W p l e ({ frames := 0, cells := 0, slots := 0, locals := 0 } : Room) s m args below meth c H locs 0 0 (MQ below (fQi Γ r σ') args s 0 0 (fAd Γ)) (F0 m 0 ls []) by rw [hH, hL] at hw; exact hw
  unfold f_X8_in at hf
  refine lv_iload_n C.1 C.2.1 (kd kX8_in_0 0 rfl) rfl (lv_at hl 0 rfl) ?_
  refine lv_iload_n C.1 C.2.1 (kd kX8_in_0 1 rfl) rfl (lv_at hl 1 rfl) ?_
  refine lv_icmp_lt (tgt := 14) C.1 C.2.1 (kd kX8_in_0 2 rfl) (by decide) (fun q => ?_) (fun q => ?_)
  · have hf := fif_pos q hf
    refine lv_iconst (v := (0 : Int32)) C.1 C.2.1 (kd kX8_in_0 8 rfl) (by decide) ?_
    exact fl_zret C hP hS rfl hf (kd kX8_in_0 9 rfl)
  have hf := fif_neg q hf
  refine lv_iload_n C.1 C.2.1 (kd kX8_in_0 3 rfl) rfl (lv_at hl 0 rfl) ?_
  refine lv_iload_n C.1 C.2.1 (kd kX8_in_0 4 rfl) rfl (lv_at hl 2 rfl) ?_
  refine lv_icmp_gt (tgt := 14) C.1 C.2.1 (kd kX8_in_0 5 rfl) (by decide) (fun q => ?_) (fun q => ?_)
  · have hf := fif_pos q hf
    refine lv_iconst (v := (0 : Int32)) C.1 C.2.1 (kd kX8_in_0 8 rfl) (by decide) ?_
    exact fl_zret C hP hS rfl hf (kd kX8_in_0 9 rfl)
  have hf := fif_neg q hf
  refine lv_iconst (v := (1 : Int32)) C.1 C.2.1 (kd kX8_in_0 6 rfl) (by decide) ?_
  refine lv_goto (tgt := 15) C.1 C.2.1 (kd kX8_in_0 7 rfl) (by decide) ?_
  exact fl_zret C hP hS rfl hf (kd kX8_in_0 9 rfl)
def f_X8_isShip (x1 : Int32) (σ : fS) : Option (Int32 × fS) := fb (98 : Int32) 277 (fcall (f_X8_in x1 (0 : Int32) ((σ 165 (98 : Int32).toNatClampNeg) - (1 : Int32)) σ) (fun r1_ σ1 => fg (r1_ = 0 ∨ r1_ = 1) (some (r1_, σ1))))
set_option maxRecDepth 100000 in
set_option maxHeartbeats 4000000 in
theorem m_X8_isShip {Γ : fGm} (hI : fI Γ) (l : Launch) {x1 : Int32} {σ : fS} {r : Int32} {σ' : fS} (hf : f_X8_isShip x1 σ = some (r, σ')) : Met l yX8_isShip (.code yX8_isShip cX8_isShip 2 (some .boolean) :: lw_g) ({ frames := 1, cells := 0, slots := 0, locals := 22 } : Room) (fPre Γ [.ref (Γ.1 164), .int x1] σ) (fQi Γ r σ') 0 0 (fAd Γ) := by
  refine fl_enter (own := RX8) hI (by decide +kernel) rfl (Nat.le_of_ble_eq_true rfl) ?_
  intro p e s m args below meth c ls C hl hP hS
  have hl : lv_has ls 2 [(0, .ref (Γ.1 164)), (1, .int x1)] := hl
  obtain ⟨H, hH⟩ : ∃ H, H = s.heap := ⟨_, rfl⟩
  obtain ⟨locs, hL⟩ : ∃ L : List Loc, L = [] := ⟨_, rfl⟩
  have hP : fH Γ σ H := by rw [hH]; exact hP
  have hS : va_S (fAd Γ) s.heap H locs := by rw [hH, hL]; exact hS
  suffices hw : W p l e ({ frames := 1, cells := 0, slots := 0, locals := 22 } : Room) s m args below meth c H locs 0 0 (MQ below (fQi Γ r σ') args s 0 0 (fAd Γ)) (F0 m 0 ls []) by rw [hH, hL] at hw; exact hw
  unfold f_X8_isShip at hf
  refine lv_iload_n C.1 C.2.1 (kd kX8_isShip_0 0 rfl) rfl (lv_at hl 1 rfl) ?_
  refine lv_iconst (v := (0 : Int32)) C.1 C.2.1 (kd kX8_isShip_0 1 rfl) (by decide) ?_
  refine lv_aload_n C.1 C.2.1 (kd kX8_isShip_0 2 rfl) rfl (lv_at hl 0 rfl) ?_
  refine fl_get (j := 0) (v := .ref (Γ.1 165)) C hP rfl (Nat.le_of_ble_eq_true rfl) rfl inX8 (Nat.le_of_ble_eq_true rfl) tw_862 rfl (kd kX8_isShip_0 3 rfl) ?_
  refine lv_bipush (v := (98 : Int32)) C.1 C.2.1 (kd kX8_isShip_0 4 rfl) (by decide) ?_
  obtain ⟨hq, hf⟩ := fb_some hf
  refine fl_iald C hP rfl hq (kd kX8_isShip_0 5 rfl) ?_
  refine lv_iconst (v := (1 : Int32)) C.1 C.2.1 (kd kX8_isShip_0 6 rfl) (by decide) ?_
  refine lv_isub C.1 C.2.1 (kd kX8_isShip_0 7 rfl) ?_
  obtain ⟨r1_, σ1, hσ1, hf⟩ := fcall_some hf
  refine fl_i hS (fl_runS (As := [.int x1, .int (0 : Int32), .int ((σ 165 (98 : Int32).toNatClampNeg) - (1 : Int32))]) (rest := []) C hP (m_X8_in C.2.2.2.2.2.2.2.2 l  hσ1) (fgS tw_968 tw_969 tw_75 tw_970) hs_X8_in ⟨rfl, rfl, Nat.le_of_ble_eq_true rfl, Nat.le_of_ble_eq_true rfl⟩ rfl hl.1 rfl (Nat.le_of_ble_eq_true rfl) (kd kX8_isShip_0 8 rfl)) (fun H locs hP hS => ?_)
  obtain ⟨hz, hf⟩ := fg_some hf
  exact fl_zret C hP hS (fz hz) hf (kd kX8_isShip_0 9 rfl)
def f_X8_isBerth (x1 : Int32) (σ : fS) : Option (Int32 × fS) := fb (115 : Int32) 277 (fcall (f_X8_in x1 (0 : Int32) ((σ 165 (115 : Int32).toNatClampNeg) - (1 : Int32)) σ) (fun r1_ σ1 => fg (r1_ = 0 ∨ r1_ = 1) (some (r1_, σ1))))
set_option maxRecDepth 100000 in
set_option maxHeartbeats 4000000 in
theorem m_X8_isBerth {Γ : fGm} (hI : fI Γ) (l : Launch) {x1 : Int32} {σ : fS} {r : Int32} {σ' : fS} (hf : f_X8_isBerth x1 σ = some (r, σ')) : Met l yX8_isBerth (.code yX8_isBerth cX8_isBerth 2 (some .boolean) :: lw_g) ({ frames := 1, cells := 0, slots := 0, locals := 22 } : Room) (fPre Γ [.ref (Γ.1 164), .int x1] σ) (fQi Γ r σ') 0 0 (fAd Γ) := by
  refine fl_enter (own := RX8) hI (by decide +kernel) rfl (Nat.le_of_ble_eq_true rfl) ?_
  intro p e s m args below meth c ls C hl hP hS
  have hl : lv_has ls 2 [(0, .ref (Γ.1 164)), (1, .int x1)] := hl
  obtain ⟨H, hH⟩ : ∃ H, H = s.heap := ⟨_, rfl⟩
  obtain ⟨locs, hL⟩ : ∃ L : List Loc, L = [] := ⟨_, rfl⟩
  have hP : fH Γ σ H := by rw [hH]; exact hP
  have hS : va_S (fAd Γ) s.heap H locs := by rw [hH, hL]; exact hS
  suffices hw : W p l e ({ frames := 1, cells := 0, slots := 0, locals := 22 } : Room) s m args below meth c H locs 0 0 (MQ below (fQi Γ r σ') args s 0 0 (fAd Γ)) (F0 m 0 ls []) by rw [hH, hL] at hw; exact hw
  unfold f_X8_isBerth at hf
  refine lv_iload_n C.1 C.2.1 (kd kX8_isBerth_0 0 rfl) rfl (lv_at hl 1 rfl) ?_
  refine lv_iconst (v := (0 : Int32)) C.1 C.2.1 (kd kX8_isBerth_0 1 rfl) (by decide) ?_
  refine lv_aload_n C.1 C.2.1 (kd kX8_isBerth_0 2 rfl) rfl (lv_at hl 0 rfl) ?_
  refine fl_get (j := 0) (v := .ref (Γ.1 165)) C hP rfl (Nat.le_of_ble_eq_true rfl) rfl inX8 (Nat.le_of_ble_eq_true rfl) tw_862 rfl (kd kX8_isBerth_0 3 rfl) ?_
  refine lv_bipush (v := (115 : Int32)) C.1 C.2.1 (kd kX8_isBerth_0 4 rfl) (by decide) ?_
  obtain ⟨hq, hf⟩ := fb_some hf
  refine fl_iald C hP rfl hq (kd kX8_isBerth_0 5 rfl) ?_
  refine lv_iconst (v := (1 : Int32)) C.1 C.2.1 (kd kX8_isBerth_0 6 rfl) (by decide) ?_
  refine lv_isub C.1 C.2.1 (kd kX8_isBerth_0 7 rfl) ?_
  obtain ⟨r1_, σ1, hσ1, hf⟩ := fcall_some hf
  refine fl_i hS (fl_runS (As := [.int x1, .int (0 : Int32), .int ((σ 165 (115 : Int32).toNatClampNeg) - (1 : Int32))]) (rest := []) C hP (m_X8_in C.2.2.2.2.2.2.2.2 l  hσ1) (fgS tw_968 tw_969 tw_75 tw_970) hs_X8_in ⟨rfl, rfl, Nat.le_of_ble_eq_true rfl, Nat.le_of_ble_eq_true rfl⟩ rfl hl.1 rfl (Nat.le_of_ble_eq_true rfl) (kd kX8_isBerth_0 8 rfl)) (fun H locs hP hS => ?_)
  obtain ⟨hz, hf⟩ := fg_some hf
  exact fl_zret C hP hS (fz hz) hf (kd kX8_isBerth_0 9 rfl)
def f_X8_isCrossing (x1 : Int32) (σ : fS) : Option (Int32 × fS) := fb (122 : Int32) 277 (fcall (f_X8_in x1 (0 : Int32) ((σ 165 (122 : Int32).toNatClampNeg) - (1 : Int32)) σ) (fun r1_ σ1 => fg (r1_ = 0 ∨ r1_ = 1) (some (r1_, σ1))))
set_option maxRecDepth 100000 in
set_option maxHeartbeats 4000000 in
theorem m_X8_isCrossing {Γ : fGm} (hI : fI Γ) (l : Launch) {x1 : Int32} {σ : fS} {r : Int32} {σ' : fS} (hf : f_X8_isCrossing x1 σ = some (r, σ')) : Met l yX8_isCrossing (.code yX8_isCrossing cX8_isCrossing 2 (some .boolean) :: lw_g) ({ frames := 1, cells := 0, slots := 0, locals := 22 } : Room) (fPre Γ [.ref (Γ.1 164), .int x1] σ) (fQi Γ r σ') 0 0 (fAd Γ) := by
  refine fl_enter (own := RX8) hI (by decide +kernel) rfl (Nat.le_of_ble_eq_true rfl) ?_
  intro p e s m args below meth c ls C hl hP hS
  have hl : lv_has ls 2 [(0, .ref (Γ.1 164)), (1, .int x1)] := hl
  obtain ⟨H, hH⟩ : ∃ H, H = s.heap := ⟨_, rfl⟩
  obtain ⟨locs, hL⟩ : ∃ L : List Loc, L = [] := ⟨_, rfl⟩
  have hP : fH Γ σ H := by rw [hH]; exact hP
  have hS : va_S (fAd Γ) s.heap H locs := by rw [hH, hL]; exact hS
  suffices hw : W p l e ({ frames := 1, cells := 0, slots := 0, locals := 22 } : Room) s m args below meth c H locs 0 0 (MQ below (fQi Γ r σ') args s 0 0 (fAd Γ)) (F0 m 0 ls []) by rw [hH, hL] at hw; exact hw
  unfold f_X8_isCrossing at hf
  refine lv_iload_n C.1 C.2.1 (kd kX8_isCrossing_0 0 rfl) rfl (lv_at hl 1 rfl) ?_
  refine lv_iconst (v := (0 : Int32)) C.1 C.2.1 (kd kX8_isCrossing_0 1 rfl) (by decide) ?_
  refine lv_aload_n C.1 C.2.1 (kd kX8_isCrossing_0 2 rfl) rfl (lv_at hl 0 rfl) ?_
  refine fl_get (j := 0) (v := .ref (Γ.1 165)) C hP rfl (Nat.le_of_ble_eq_true rfl) rfl inX8 (Nat.le_of_ble_eq_true rfl) tw_862 rfl (kd kX8_isCrossing_0 3 rfl) ?_
  refine lv_bipush (v := (122 : Int32)) C.1 C.2.1 (kd kX8_isCrossing_0 4 rfl) (by decide) ?_
  obtain ⟨hq, hf⟩ := fb_some hf
  refine fl_iald C hP rfl hq (kd kX8_isCrossing_0 5 rfl) ?_
  refine lv_iconst (v := (1 : Int32)) C.1 C.2.1 (kd kX8_isCrossing_0 6 rfl) (by decide) ?_
  refine lv_isub C.1 C.2.1 (kd kX8_isCrossing_0 7 rfl) ?_
  obtain ⟨r1_, σ1, hσ1, hf⟩ := fcall_some hf
  refine fl_i hS (fl_runS (As := [.int x1, .int (0 : Int32), .int ((σ 165 (122 : Int32).toNatClampNeg) - (1 : Int32))]) (rest := []) C hP (m_X8_in C.2.2.2.2.2.2.2.2 l  hσ1) (fgS tw_968 tw_969 tw_75 tw_970) hs_X8_in ⟨rfl, rfl, Nat.le_of_ble_eq_true rfl, Nat.le_of_ble_eq_true rfl⟩ rfl hl.1 rfl (Nat.le_of_ble_eq_true rfl) (kd kX8_isCrossing_0 8 rfl)) (fun H locs hP hS => ?_)
  obtain ⟨hz, hf⟩ := fg_some hf
  exact fl_zret C hP hS (fz hz) hf (kd kX8_isCrossing_0 9 rfl)
def f_X8_shipOf (x1 : Int32) (x2 : Int32) (σ : fS) : Option (Int32 × fS) := fb (((99 : Int32) + ((4 : Int32) * x1)) + x2) 277 (some ((σ 165 (((99 : Int32) + ((4 : Int32) * x1)) + x2).toNatClampNeg), σ))
set_option maxRecDepth 100000 in
set_option maxHeartbeats 4000000 in
theorem m_X8_shipOf {Γ : fGm} (hI : fI Γ) (l : Launch) {x1 : Int32} {x2 : Int32} {σ : fS} {r : Int32} {σ' : fS} (hf : f_X8_shipOf x1 x2 σ = some (r, σ')) : Met l yX8_shipOf (.code yX8_shipOf cX8_shipOf 3 (some .int) :: lw_g) ({ frames := 0, cells := 0, slots := 0, locals := 0 } : Room) (fPre Γ [.ref (Γ.1 164), .int x1, .int x2] σ) (fQi Γ r σ') 0 0 (fAd Γ) := by
  refine fl_enter (own := RX8) hI (by decide +kernel) rfl (Nat.le_of_ble_eq_true rfl) ?_
  intro p e s m args below meth c ls C hl hP hS
  have hl : lv_has ls 3 [(0, .ref (Γ.1 164)), (1, .int x1), (2, .int x2)] := hl
  obtain ⟨H, hH⟩ : ∃ H, H = s.heap := ⟨_, rfl⟩
  obtain ⟨locs, hL⟩ : ∃ L : List Loc, L = [] := ⟨_, rfl⟩
  have hP : fH Γ σ H := by rw [hH]; exact hP
  have hS : va_S (fAd Γ) s.heap H locs := by rw [hH, hL]; exact hS
  suffices hw : W p l e ({ frames := 0, cells := 0, slots := 0, locals := 0 } : Room) s m args below meth c H locs 0 0 (MQ below (fQi Γ r σ') args s 0 0 (fAd Γ)) (F0 m 0 ls []) by rw [hH, hL] at hw; exact hw
  unfold f_X8_shipOf at hf
  refine lv_aload_n C.1 C.2.1 (kd kX8_shipOf_0 0 rfl) rfl (lv_at hl 0 rfl) ?_
  refine fl_get (j := 0) (v := .ref (Γ.1 165)) C hP rfl (Nat.le_of_ble_eq_true rfl) rfl inX8 (Nat.le_of_ble_eq_true rfl) tw_862 rfl (kd kX8_shipOf_0 1 rfl) ?_
  refine lv_bipush (v := (99 : Int32)) C.1 C.2.1 (kd kX8_shipOf_0 2 rfl) (by decide) ?_
  refine lv_iconst (v := (4 : Int32)) C.1 C.2.1 (kd kX8_shipOf_0 3 rfl) (by decide) ?_
  refine lv_iload_n C.1 C.2.1 (kd kX8_shipOf_0 4 rfl) rfl (lv_at hl 1 rfl) ?_
  refine lv_imul C.1 C.2.1 (kd kX8_shipOf_0 5 rfl) ?_
  refine lv_iadd C.1 C.2.1 (kd kX8_shipOf_0 6 rfl) ?_
  refine lv_iload_n C.1 C.2.1 (kd kX8_shipOf_0 7 rfl) rfl (lv_at hl 2 rfl) ?_
  refine lv_iadd C.1 C.2.1 (kd kX8_shipOf_0 8 rfl) ?_
  obtain ⟨hq, hf⟩ := fb_some hf
  refine fl_iald C hP rfl hq (kd kX8_shipOf_0 9 rfl) ?_
  exact fl_iret C hP hS hf (kd kX8_shipOf_0 10 rfl)
def f_X8_berthOf (x1 : Int32) (x2 : Int32) (σ : fS) : Option (Int32 × fS) := fb (((116 : Int32) + ((2 : Int32) * x1)) + x2) 277 (some ((σ 165 (((116 : Int32) + ((2 : Int32) * x1)) + x2).toNatClampNeg), σ))
set_option maxRecDepth 100000 in
set_option maxHeartbeats 4000000 in
theorem m_X8_berthOf {Γ : fGm} (hI : fI Γ) (l : Launch) {x1 : Int32} {x2 : Int32} {σ : fS} {r : Int32} {σ' : fS} (hf : f_X8_berthOf x1 x2 σ = some (r, σ')) : Met l yX8_berthOf (.code yX8_berthOf cX8_berthOf 3 (some .int) :: lw_g) ({ frames := 0, cells := 0, slots := 0, locals := 0 } : Room) (fPre Γ [.ref (Γ.1 164), .int x1, .int x2] σ) (fQi Γ r σ') 0 0 (fAd Γ) := by
  refine fl_enter (own := RX8) hI (by decide +kernel) rfl (Nat.le_of_ble_eq_true rfl) ?_
  intro p e s m args below meth c ls C hl hP hS
  have hl : lv_has ls 3 [(0, .ref (Γ.1 164)), (1, .int x1), (2, .int x2)] := hl
  obtain ⟨H, hH⟩ : ∃ H, H = s.heap := ⟨_, rfl⟩
  obtain ⟨locs, hL⟩ : ∃ L : List Loc, L = [] := ⟨_, rfl⟩
  have hP : fH Γ σ H := by rw [hH]; exact hP
  have hS : va_S (fAd Γ) s.heap H locs := by rw [hH, hL]; exact hS
  suffices hw : W p l e ({ frames := 0, cells := 0, slots := 0, locals := 0 } : Room) s m args below meth c H locs 0 0 (MQ below (fQi Γ r σ') args s 0 0 (fAd Γ)) (F0 m 0 ls []) by rw [hH, hL] at hw; exact hw
  unfold f_X8_berthOf at hf
  refine lv_aload_n C.1 C.2.1 (kd kX8_berthOf_0 0 rfl) rfl (lv_at hl 0 rfl) ?_
  refine fl_get (j := 0) (v := .ref (Γ.1 165)) C hP rfl (Nat.le_of_ble_eq_true rfl) rfl inX8 (Nat.le_of_ble_eq_true rfl) tw_862 rfl (kd kX8_berthOf_0 1 rfl) ?_
  refine lv_bipush (v := (116 : Int32)) C.1 C.2.1 (kd kX8_berthOf_0 2 rfl) (by decide) ?_
  refine lv_iconst (v := (2 : Int32)) C.1 C.2.1 (kd kX8_berthOf_0 3 rfl) (by decide) ?_
  refine lv_iload_n C.1 C.2.1 (kd kX8_berthOf_0 4 rfl) rfl (lv_at hl 1 rfl) ?_
  refine lv_imul C.1 C.2.1 (kd kX8_berthOf_0 5 rfl) ?_
  refine lv_iadd C.1 C.2.1 (kd kX8_berthOf_0 6 rfl) ?_
  refine lv_iload_n C.1 C.2.1 (kd kX8_berthOf_0 7 rfl) rfl (lv_at hl 2 rfl) ?_
  refine lv_iadd C.1 C.2.1 (kd kX8_berthOf_0 8 rfl) ?_
  obtain ⟨hq, hf⟩ := fb_some hf
  refine fl_iald C hP rfl hq (kd kX8_berthOf_0 9 rfl) ?_
  exact fl_iret C hP hS hf (kd kX8_berthOf_0 10 rfl)
def f_X8_of (x1 : Int32) (x2 : Int32) (σ : fS) : Option (Int32 × fS) := fb (((123 : Int32) + ((4 : Int32) * x1)) + x2) 277 (some ((σ 165 (((123 : Int32) + ((4 : Int32) * x1)) + x2).toNatClampNeg), σ))
set_option maxRecDepth 100000 in
set_option maxHeartbeats 4000000 in
theorem m_X8_of {Γ : fGm} (hI : fI Γ) (l : Launch) {x1 : Int32} {x2 : Int32} {σ : fS} {r : Int32} {σ' : fS} (hf : f_X8_of x1 x2 σ = some (r, σ')) : Met l yX8_of (.code yX8_of cX8_of 3 (some .int) :: lw_g) ({ frames := 0, cells := 0, slots := 0, locals := 0 } : Room) (fPre Γ [.ref (Γ.1 164), .int x1, .int x2] σ) (fQi Γ r σ') 0 0 (fAd Γ) := by
  refine fl_enter (own := RX8) hI (by decide +kernel) rfl (Nat.le_of_ble_eq_true rfl) ?_
  intro p e s m args below meth c ls C hl hP hS
  have hl : lv_has ls 3 [(0, .ref (Γ.1 164)), (1, .int x1), (2, .int x2)] := hl
  obtain ⟨H, hH⟩ : ∃ H, H = s.heap := ⟨_, rfl⟩
  obtain ⟨locs, hL⟩ : ∃ L : List Loc, L = [] := ⟨_, rfl⟩
  have hP : fH Γ σ H := by rw [hH]; exact hP
  have hS : va_S (fAd Γ) s.heap H locs := by rw [hH, hL]; exact hS
  suffices hw : W p l e ({ frames := 0, cells := 0, slots := 0, locals := 0 } : Room) s m args below meth c H locs 0 0 (MQ below (fQi Γ r σ') args s 0 0 (fAd Γ)) (F0 m 0 ls []) by rw [hH, hL] at hw; exact hw
  unfold f_X8_of at hf
  refine lv_aload_n C.1 C.2.1 (kd kX8_of_0 0 rfl) rfl (lv_at hl 0 rfl) ?_
  refine fl_get (j := 0) (v := .ref (Γ.1 165)) C hP rfl (Nat.le_of_ble_eq_true rfl) rfl inX8 (Nat.le_of_ble_eq_true rfl) tw_862 rfl (kd kX8_of_0 1 rfl) ?_
  refine lv_bipush (v := (123 : Int32)) C.1 C.2.1 (kd kX8_of_0 2 rfl) (by decide) ?_
  refine lv_iconst (v := (4 : Int32)) C.1 C.2.1 (kd kX8_of_0 3 rfl) (by decide) ?_
  refine lv_iload_n C.1 C.2.1 (kd kX8_of_0 4 rfl) rfl (lv_at hl 1 rfl) ?_
  refine lv_imul C.1 C.2.1 (kd kX8_of_0 5 rfl) ?_
  refine lv_iadd C.1 C.2.1 (kd kX8_of_0 6 rfl) ?_
  refine lv_iload_n C.1 C.2.1 (kd kX8_of_0 7 rfl) rfl (lv_at hl 2 rfl) ?_
  refine lv_iadd C.1 C.2.1 (kd kX8_of_0 8 rfl) ?_
  obtain ⟨hq, hf⟩ := fb_some hf
  refine fl_iald C hP rfl hq (kd kX8_of_0 9 rfl) ?_
  exact fl_iret C hP hS hf (kd kX8_of_0 10 rfl)
def f_X8_vehicleOf (x1 : Int32) (x2 : Int32) (σ : fS) : Option (Int32 × fS) := fb (((172 : Int32) + ((3 : Int32) * x1)) + x2) 277 (some ((σ 165 (((172 : Int32) + ((3 : Int32) * x1)) + x2).toNatClampNeg), σ))
set_option maxRecDepth 100000 in
set_option maxHeartbeats 4000000 in
theorem m_X8_vehicleOf {Γ : fGm} (hI : fI Γ) (l : Launch) {x1 : Int32} {x2 : Int32} {σ : fS} {r : Int32} {σ' : fS} (hf : f_X8_vehicleOf x1 x2 σ = some (r, σ')) : Met l yX8_vehicleOf (.code yX8_vehicleOf cX8_vehicleOf 3 (some .int) :: lw_g) ({ frames := 0, cells := 0, slots := 0, locals := 0 } : Room) (fPre Γ [.ref (Γ.1 164), .int x1, .int x2] σ) (fQi Γ r σ') 0 0 (fAd Γ) := by
  refine fl_enter (own := RX8) hI (by decide +kernel) rfl (Nat.le_of_ble_eq_true rfl) ?_
  intro p e s m args below meth c ls C hl hP hS
  have hl : lv_has ls 3 [(0, .ref (Γ.1 164)), (1, .int x1), (2, .int x2)] := hl
  obtain ⟨H, hH⟩ : ∃ H, H = s.heap := ⟨_, rfl⟩
  obtain ⟨locs, hL⟩ : ∃ L : List Loc, L = [] := ⟨_, rfl⟩
  have hP : fH Γ σ H := by rw [hH]; exact hP
  have hS : va_S (fAd Γ) s.heap H locs := by rw [hH, hL]; exact hS
  suffices hw : W p l e ({ frames := 0, cells := 0, slots := 0, locals := 0 } : Room) s m args below meth c H locs 0 0 (MQ below (fQi Γ r σ') args s 0 0 (fAd Γ)) (F0 m 0 ls []) by rw [hH, hL] at hw; exact hw
  unfold f_X8_vehicleOf at hf
  refine lv_aload_n C.1 C.2.1 (kd kX8_vehicleOf_0 0 rfl) rfl (lv_at hl 0 rfl) ?_
  refine fl_get (j := 0) (v := .ref (Γ.1 165)) C hP rfl (Nat.le_of_ble_eq_true rfl) rfl inX8 (Nat.le_of_ble_eq_true rfl) tw_862 rfl (kd kX8_vehicleOf_0 1 rfl) ?_
  refine lv_sipush (v := (172 : Int32)) C.1 C.2.1 (kd kX8_vehicleOf_0 2 rfl) (by decide) ?_
  refine lv_iconst (v := (3 : Int32)) C.1 C.2.1 (kd kX8_vehicleOf_0 3 rfl) (by decide) ?_
  refine lv_iload_n C.1 C.2.1 (kd kX8_vehicleOf_0 4 rfl) rfl (lv_at hl 1 rfl) ?_
  refine lv_imul C.1 C.2.1 (kd kX8_vehicleOf_0 5 rfl) ?_
  refine lv_iadd C.1 C.2.1 (kd kX8_vehicleOf_0 6 rfl) ?_
  refine lv_iload_n C.1 C.2.1 (kd kX8_vehicleOf_0 7 rfl) rfl (lv_at hl 2 rfl) ?_
  refine lv_iadd C.1 C.2.1 (kd kX8_vehicleOf_0 8 rfl) ?_
  obtain ⟨hq, hf⟩ := fb_some hf
  refine fl_iald C hP rfl hq (kd kX8_vehicleOf_0 9 rfl) ?_
  exact fl_iret C hP hS hf (kd kX8_vehicleOf_0 10 rfl)
def f_X8_connectionOf (x1 : Int32) (x2 : Int32) (σ : fS) : Option (Int32 × fS) := fb (((245 : Int32) + ((4 : Int32) * x1)) + x2) 277 (some ((σ 165 (((245 : Int32) + ((4 : Int32) * x1)) + x2).toNatClampNeg), σ))
set_option maxRecDepth 100000 in
set_option maxHeartbeats 4000000 in
theorem m_X8_connectionOf {Γ : fGm} (hI : fI Γ) (l : Launch) {x1 : Int32} {x2 : Int32} {σ : fS} {r : Int32} {σ' : fS} (hf : f_X8_connectionOf x1 x2 σ = some (r, σ')) : Met l yX8_connectionOf (.code yX8_connectionOf cX8_connectionOf 3 (some .int) :: lw_g) ({ frames := 0, cells := 0, slots := 0, locals := 0 } : Room) (fPre Γ [.ref (Γ.1 164), .int x1, .int x2] σ) (fQi Γ r σ') 0 0 (fAd Γ) := by
  refine fl_enter (own := RX8) hI (by decide +kernel) rfl (Nat.le_of_ble_eq_true rfl) ?_
  intro p e s m args below meth c ls C hl hP hS
  have hl : lv_has ls 3 [(0, .ref (Γ.1 164)), (1, .int x1), (2, .int x2)] := hl
  obtain ⟨H, hH⟩ : ∃ H, H = s.heap := ⟨_, rfl⟩
  obtain ⟨locs, hL⟩ : ∃ L : List Loc, L = [] := ⟨_, rfl⟩
  have hP : fH Γ σ H := by rw [hH]; exact hP
  have hS : va_S (fAd Γ) s.heap H locs := by rw [hH, hL]; exact hS
  suffices hw : W p l e ({ frames := 0, cells := 0, slots := 0, locals := 0 } : Room) s m args below meth c H locs 0 0 (MQ below (fQi Γ r σ') args s 0 0 (fAd Γ)) (F0 m 0 ls []) by rw [hH, hL] at hw; exact hw
  unfold f_X8_connectionOf at hf
  refine lv_aload_n C.1 C.2.1 (kd kX8_connectionOf_0 0 rfl) rfl (lv_at hl 0 rfl) ?_
  refine fl_get (j := 0) (v := .ref (Γ.1 165)) C hP rfl (Nat.le_of_ble_eq_true rfl) rfl inX8 (Nat.le_of_ble_eq_true rfl) tw_862 rfl (kd kX8_connectionOf_0 1 rfl) ?_
  refine lv_sipush (v := (245 : Int32)) C.1 C.2.1 (kd kX8_connectionOf_0 2 rfl) (by decide) ?_
  refine lv_iconst (v := (4 : Int32)) C.1 C.2.1 (kd kX8_connectionOf_0 3 rfl) (by decide) ?_
  refine lv_iload_n C.1 C.2.1 (kd kX8_connectionOf_0 4 rfl) rfl (lv_at hl 1 rfl) ?_
  refine lv_imul C.1 C.2.1 (kd kX8_connectionOf_0 5 rfl) ?_
  refine lv_iadd C.1 C.2.1 (kd kX8_connectionOf_0 6 rfl) ?_
  refine lv_iload_n C.1 C.2.1 (kd kX8_connectionOf_0 7 rfl) rfl (lv_at hl 2 rfl) ?_
  refine lv_iadd C.1 C.2.1 (kd kX8_connectionOf_0 8 rfl) ?_
  obtain ⟨hq, hf⟩ := fb_some hf
  refine fl_iald C hP rfl hq (kd kX8_connectionOf_0 9 rfl) ?_
  exact fl_iret C hP hS hf (kd kX8_connectionOf_0 10 rfl)
def f_X8_remembers_b2 : Nat → Int32 → fS → Option (fS)
  | 0, _, _ => none
  | n_ + 1, v1, σ => (if (277 : Int32) ≤ v1 then some σ else fb v1 277 (fb v1 277 (fL (fu σ 166 v1.toNatClampNeg (σ 165 v1.toNatClampNeg)) (fun σ1 => (fun v1 σ => f_X8_remembers_b2 n_ v1 σ) ((v1 + (1 : Int32))) σ1))))
set_option maxRecDepth 100000 in
set_option maxHeartbeats 4000000 in
theorem w_X8_remembers_b2 {σ' : fS}  (C : fC Γ p s m args meth c cX8_remembers none RX8 2) : ∀ (n_ : Nat) (v1 : Int32) (σ : fS) (H : Heap) (locs : List Loc) (ls : Array Slot), f_X8_remembers_b2 n_ v1 σ = some σ' → fH Γ σ H → va_S (fAd Γ) s.heap H locs → lv_has ls 2 [(0, .ref (Γ.1 164)), (1, .int v1)] → W p l e ({ frames := 0, cells := 0, slots := 0, locals := 0 } : Room) s m args below meth c H locs 0 0 (MQ below (fQv Γ σ') args s 0 0 (fAd Γ)) (F0 m 2 ls []) := by
  intro n_
  induction n_ with
  | zero =>
    intro v1 σ H locs ls hf
    cases hf
  | succ n_ ih =>
    intro v1 σ H locs ls hf hP hS hl
    have hf : (if (277 : Int32) ≤ v1 then some σ else fb v1 277 (fb v1 277 (fL (fu σ 166 v1.toNatClampNeg (σ 165 v1.toNatClampNeg)) (fun σ1 => (fun v1 σ => f_X8_remembers_b2 n_ v1 σ) ((v1 + (1 : Int32))) σ1)))) = some σ' := hf
    have hK2 := ih
    refine lv_iload_n C.1 C.2.1 (kd kX8_remembers_0 2 rfl) rfl (lv_at hl 1 rfl) ?_
    refine lv_sipush (v := (277 : Int32)) C.1 C.2.1 (kd kX8_remembers_0 3 rfl) (by decide) ?_
    refine lv_icmp_ge (tgt := 27) C.1 C.2.1 (kd kX8_remembers_0 4 rfl) (by decide) (fun q => ?_) (fun q => ?_)
    · have hf := fif_pos q hf
      exact fl_vret C hP hS hf (kd kX8_remembers_0 15 rfl)
    have hf := fif_neg q hf
    refine lv_aload_n C.1 C.2.1 (kd kX8_remembers_0 5 rfl) rfl (lv_at hl 0 rfl) ?_
    refine fl_get (j := 1) (v := .ref (Γ.1 166)) C hP rfl (Nat.le_of_ble_eq_true rfl) rfl inX8 (Nat.le_of_ble_eq_true rfl) tw_863 rfl (kd kX8_remembers_0 6 rfl) ?_
    refine lv_iload_n C.1 C.2.1 (kd kX8_remembers_0 7 rfl) rfl (lv_at hl 1 rfl) ?_
    refine lv_aload_n C.1 C.2.1 (kd kX8_remembers_0 8 rfl) rfl (lv_at hl 0 rfl) ?_
    refine fl_get (j := 0) (v := .ref (Γ.1 165)) C hP rfl (Nat.le_of_ble_eq_true rfl) rfl inX8 (Nat.le_of_ble_eq_true rfl) tw_862 rfl (kd kX8_remembers_0 9 rfl) ?_
    refine lv_iload_n C.1 C.2.1 (kd kX8_remembers_0 10 rfl) rfl (lv_at hl 1 rfl) ?_
    obtain ⟨hq, hf⟩ := fb_some hf
    refine fl_iald C hP rfl hq (kd kX8_remembers_0 11 rfl) ?_
    obtain ⟨hq, hf⟩ := fb_some hf
    obtain ⟨σ1, eσ1, hf⟩ := fL_some hf
    refine fl_iast C hP hS rfl hq (kd kX8_remembers_0 12 rfl) (fun H locs hP hS => ?_)
    have hP : fH Γ σ1 H := by rw [eσ1]; exact hP
    refine lv_iinc (v := (v1 + (1 : Int32))) (lv' := [(1, .int (v1 + (1 : Int32))), (0, .ref (Γ.1 164))]) C.1 C.2.1 (kd kX8_remembers_0 13 rfl) hl (k := 1) rfl rfl (Nat.le_of_ble_eq_true rfl) rfl (fun ls hl => ?_)
    refine lv_goto (tgt := 2) C.1 C.2.1 (kd kX8_remembers_0 14 rfl) (by decide) ?_
    exact hK2 ((v1 + (1 : Int32))) σ1 H locs ls hf hP hS (lv_sub hl [1, 0] rfl)
def f_X8_remembers (σ : fS) : Option (fS) := f_X8_remembers_b2 fN ((0 : Int32)) σ
set_option maxRecDepth 100000 in
set_option maxHeartbeats 4000000 in
theorem m_X8_remembers {Γ : fGm} (hI : fI Γ) (l : Launch) {σ : fS} {σ' : fS} (hf : f_X8_remembers  σ = some σ') : Met l yX8_remembers (.code yX8_remembers cX8_remembers 2 none :: lw_g) ({ frames := 0, cells := 0, slots := 0, locals := 0 } : Room) (fPre Γ [.ref (Γ.1 164)] σ) (fQv Γ σ') 0 0 (fAd Γ) := by
  refine fl_enter (own := RX8) hI (by decide +kernel) rfl (Nat.le_of_ble_eq_true rfl) ?_
  intro p e s m args below meth c ls C hl hP hS
  have hl : lv_has ls 2 [(0, .ref (Γ.1 164))] := hl
  obtain ⟨H, hH⟩ : ∃ H, H = s.heap := ⟨_, rfl⟩
  obtain ⟨locs, hL⟩ : ∃ L : List Loc, L = [] := ⟨_, rfl⟩
  have hP : fH Γ σ H := by rw [hH]; exact hP
  have hS : va_S (fAd Γ) s.heap H locs := by rw [hH, hL]; exact hS
  suffices hw : W p l e ({ frames := 0, cells := 0, slots := 0, locals := 0 } : Room) s m args below meth c H locs 0 0 (MQ below (fQv Γ σ') args s 0 0 (fAd Γ)) (F0 m 0 ls []) by rw [hH, hL] at hw; exact hw
  unfold f_X8_remembers at hf
  refine lv_iconst (v := (0 : Int32)) C.1 C.2.1 (kd kX8_remembers_0 0 rfl) (by decide) ?_
  refine lv_istore_n (lv' := [(1, .int (0 : Int32)), (0, .ref (Γ.1 164))]) C.1 C.2.1 (kd kX8_remembers_0 1 rfl) rfl hl (Nat.le_of_ble_eq_true rfl) rfl (fun ls hl => ?_)
  exact w_X8_remembers_b2 C fN ((0 : Int32)) σ H locs ls hf hP hS (lv_sub hl [1, 0] rfl)
def f_X8_brings_b2 : Nat → Int32 → fS → Option (fS)
  | 0, _, _ => none
  | n_ + 1, v1, σ => (if (277 : Int32) ≤ v1 then some σ else fb v1 277 (fb v1 277 (fL (fu σ 165 v1.toNatClampNeg (σ 166 v1.toNatClampNeg)) (fun σ1 => (fun v1 σ => f_X8_brings_b2 n_ v1 σ) ((v1 + (1 : Int32))) σ1))))
set_option maxRecDepth 100000 in
set_option maxHeartbeats 4000000 in
theorem w_X8_brings_b2 {σ' : fS}  (C : fC Γ p s m args meth c cX8_brings none RX8 2) : ∀ (n_ : Nat) (v1 : Int32) (σ : fS) (H : Heap) (locs : List Loc) (ls : Array Slot), f_X8_brings_b2 n_ v1 σ = some σ' → fH Γ σ H → va_S (fAd Γ) s.heap H locs → lv_has ls 2 [(0, .ref (Γ.1 164)), (1, .int v1)] → W p l e ({ frames := 0, cells := 0, slots := 0, locals := 0 } : Room) s m args below meth c H locs 0 0 (MQ below (fQv Γ σ') args s 0 0 (fAd Γ)) (F0 m 2 ls []) := by
  intro n_
  induction n_ with
  | zero =>
    intro v1 σ H locs ls hf
    cases hf
  | succ n_ ih =>
    intro v1 σ H locs ls hf hP hS hl
    have hf : (if (277 : Int32) ≤ v1 then some σ else fb v1 277 (fb v1 277 (fL (fu σ 165 v1.toNatClampNeg (σ 166 v1.toNatClampNeg)) (fun σ1 => (fun v1 σ => f_X8_brings_b2 n_ v1 σ) ((v1 + (1 : Int32))) σ1)))) = some σ' := hf
    have hK2 := ih
    refine lv_iload_n C.1 C.2.1 (kd kX8_brings_0 2 rfl) rfl (lv_at hl 1 rfl) ?_
    refine lv_sipush (v := (277 : Int32)) C.1 C.2.1 (kd kX8_brings_0 3 rfl) (by decide) ?_
    refine lv_icmp_ge (tgt := 27) C.1 C.2.1 (kd kX8_brings_0 4 rfl) (by decide) (fun q => ?_) (fun q => ?_)
    · have hf := fif_pos q hf
      exact fl_vret C hP hS hf (kd kX8_brings_0 15 rfl)
    have hf := fif_neg q hf
    refine lv_aload_n C.1 C.2.1 (kd kX8_brings_0 5 rfl) rfl (lv_at hl 0 rfl) ?_
    refine fl_get (j := 0) (v := .ref (Γ.1 165)) C hP rfl (Nat.le_of_ble_eq_true rfl) rfl inX8 (Nat.le_of_ble_eq_true rfl) tw_862 rfl (kd kX8_brings_0 6 rfl) ?_
    refine lv_iload_n C.1 C.2.1 (kd kX8_brings_0 7 rfl) rfl (lv_at hl 1 rfl) ?_
    refine lv_aload_n C.1 C.2.1 (kd kX8_brings_0 8 rfl) rfl (lv_at hl 0 rfl) ?_
    refine fl_get (j := 1) (v := .ref (Γ.1 166)) C hP rfl (Nat.le_of_ble_eq_true rfl) rfl inX8 (Nat.le_of_ble_eq_true rfl) tw_863 rfl (kd kX8_brings_0 9 rfl) ?_
    refine lv_iload_n C.1 C.2.1 (kd kX8_brings_0 10 rfl) rfl (lv_at hl 1 rfl) ?_
    obtain ⟨hq, hf⟩ := fb_some hf
    refine fl_iald C hP rfl hq (kd kX8_brings_0 11 rfl) ?_
    obtain ⟨hq, hf⟩ := fb_some hf
    obtain ⟨σ1, eσ1, hf⟩ := fL_some hf
    refine fl_iast C hP hS rfl hq (kd kX8_brings_0 12 rfl) (fun H locs hP hS => ?_)
    have hP : fH Γ σ1 H := by rw [eσ1]; exact hP
    refine lv_iinc (v := (v1 + (1 : Int32))) (lv' := [(1, .int (v1 + (1 : Int32))), (0, .ref (Γ.1 164))]) C.1 C.2.1 (kd kX8_brings_0 13 rfl) hl (k := 1) rfl rfl (Nat.le_of_ble_eq_true rfl) rfl (fun ls hl => ?_)
    refine lv_goto (tgt := 2) C.1 C.2.1 (kd kX8_brings_0 14 rfl) (by decide) ?_
    exact hK2 ((v1 + (1 : Int32))) σ1 H locs ls hf hP hS (lv_sub hl [1, 0] rfl)
def f_X8_brings (σ : fS) : Option (fS) := f_X8_brings_b2 fN ((0 : Int32)) σ
set_option maxRecDepth 100000 in
set_option maxHeartbeats 4000000 in
theorem m_X8_brings {Γ : fGm} (hI : fI Γ) (l : Launch) {σ : fS} {σ' : fS} (hf : f_X8_brings  σ = some σ') : Met l yX8_brings (.code yX8_brings cX8_brings 2 none :: lw_g) ({ frames := 0, cells := 0, slots := 0, locals := 0 } : Room) (fPre Γ [.ref (Γ.1 164)] σ) (fQv Γ σ') 0 0 (fAd Γ) := by
  refine fl_enter (own := RX8) hI (by decide +kernel) rfl (Nat.le_of_ble_eq_true rfl) ?_
  intro p e s m args below meth c ls C hl hP hS
  have hl : lv_has ls 2 [(0, .ref (Γ.1 164))] := hl
  obtain ⟨H, hH⟩ : ∃ H, H = s.heap := ⟨_, rfl⟩
  obtain ⟨locs, hL⟩ : ∃ L : List Loc, L = [] := ⟨_, rfl⟩
  have hP : fH Γ σ H := by rw [hH]; exact hP
  have hS : va_S (fAd Γ) s.heap H locs := by rw [hH, hL]; exact hS
  suffices hw : W p l e ({ frames := 0, cells := 0, slots := 0, locals := 0 } : Room) s m args below meth c H locs 0 0 (MQ below (fQv Γ σ') args s 0 0 (fAd Γ)) (F0 m 0 ls []) by rw [hH, hL] at hw; exact hw
  unfold f_X8_brings at hf
  refine lv_iconst (v := (0 : Int32)) C.1 C.2.1 (kd kX8_brings_0 0 rfl) (by decide) ?_
  refine lv_istore_n (lv' := [(1, .int (0 : Int32)), (0, .ref (Γ.1 164))]) C.1 C.2.1 (kd kX8_brings_0 1 rfl) rfl hl (Nat.le_of_ble_eq_true rfl) rfl (fun ls hl => ?_)
  exact w_X8_brings_b2 C fN ((0 : Int32)) σ H locs ls hf hP hS (lv_sub hl [1, 0] rfl)
def f_X8_errs (x0 : Int32) (σ : fS) : Option (Int32 × fS) := fcall (f_X8_in x0 (-10006 : Int32) (-10001 : Int32) σ) (fun r1_ σ1 => fg (r1_ = 0 ∨ r1_ = 1) (some (r1_, σ1)))
set_option maxRecDepth 100000 in
set_option maxHeartbeats 4000000 in
theorem m_X8_errs {Γ : fGm} (hI : fI Γ) (l : Launch) {x0 : Int32} {σ : fS} {r : Int32} {σ' : fS} (hf : f_X8_errs x0 σ = some (r, σ')) : Met l yX8_errs (.code yX8_errs cX8_errs 1 (some .boolean) :: lw_g) ({ frames := 1, cells := 0, slots := 0, locals := 22 } : Room) (fPre Γ [.int x0] σ) (fQi Γ r σ') 0 0 (fAd Γ) := by
  refine fl_enter (own := RX8) hI (by decide +kernel) rfl (Nat.le_of_ble_eq_true rfl) ?_
  intro p e s m args below meth c ls C hl hP hS
  have hl : lv_has ls 1 [(0, .int x0)] := hl
  obtain ⟨H, hH⟩ : ∃ H, H = s.heap := ⟨_, rfl⟩
  obtain ⟨locs, hL⟩ : ∃ L : List Loc, L = [] := ⟨_, rfl⟩
  have hP : fH Γ σ H := by rw [hH]; exact hP
  have hS : va_S (fAd Γ) s.heap H locs := by rw [hH, hL]; exact hS
  suffices hw : W p l e ({ frames := 1, cells := 0, slots := 0, locals := 22 } : Room) s m args below meth c H locs 0 0 (MQ below (fQi Γ r σ') args s 0 0 (fAd Γ)) (F0 m 0 ls []) by rw [hH, hL] at hw; exact hw
  unfold f_X8_errs at hf
  refine lv_iload_n C.1 C.2.1 (kd kX8_errs_0 0 rfl) rfl (lv_at hl 0 rfl) ?_
  refine lv_sipush (v := (-10006 : Int32)) C.1 C.2.1 (kd kX8_errs_0 1 rfl) (by decide) ?_
  refine lv_sipush (v := (-10001 : Int32)) C.1 C.2.1 (kd kX8_errs_0 2 rfl) (by decide) ?_
  obtain ⟨r1_, σ1, hσ1, hf⟩ := fcall_some hf
  refine fl_i hS (fl_runS (As := [.int x0, .int (-10006 : Int32), .int (-10001 : Int32)]) (rest := []) C hP (m_X8_in C.2.2.2.2.2.2.2.2 l  hσ1) (fgS tw_968 tw_969 tw_75 tw_970) hs_X8_in ⟨rfl, rfl, Nat.le_of_ble_eq_true rfl, Nat.le_of_ble_eq_true rfl⟩ rfl hl.1 rfl (Nat.le_of_ble_eq_true rfl) (kd kX8_errs_0 3 rfl)) (fun H locs hP hS => ?_)
  obtain ⟨hz, hf⟩ := fg_some hf
  exact fl_zret C hP hS (fz hz) hf (kd kX8_errs_0 4 rfl)
def f_X8_kept_b61 : Nat → Int32 → Int32 → fS → Option (Int32 × fS)
  | 0, _, _, _ => none
  | n_ + 1, v1, v2, σ => (if (277 : Int32) ≤ v2 then fL (fu σ 164 3 ((σ 164 3) + (1 : Int32))) (fun σ1 => some (v1, σ1)) else fb v2 277 (fb (((277 : Int32) * (σ 164 3)) + v2) 1662 (fL (fu σ 167 (((277 : Int32) * (σ 164 3)) + v2).toNatClampNeg (σ 166 v2.toNatClampNeg)) (fun σ2 => (fun v1 v2 σ => f_X8_kept_b61 n_ v1 v2 σ) (v1) ((v2 + (1 : Int32))) σ2))))
set_option maxRecDepth 100000 in
set_option maxHeartbeats 4000000 in
theorem w_X8_kept_b61 {r : Int32} {σ' : fS}  (C : fC Γ p s m args meth c cX8_kept (some .int) RX8 3) : ∀ (n_ : Nat) (v1 : Int32) (v2 : Int32) (σ : fS) (H : Heap) (locs : List Loc) (ls : Array Slot), f_X8_kept_b61 n_ v1 v2 σ = some (r, σ') → fH Γ σ H → va_S (fAd Γ) s.heap H locs → lv_has ls 3 [(0, .ref (Γ.1 164)), (1, .int v1), (2, .int v2)] → W p l e ({ frames := 2, cells := 0, slots := 0, locals := 42 } : Room) s m args below meth c H locs 0 0 (MQ below (fQi Γ r σ') args s 0 0 (fAd Γ)) (F0 m 61 ls []) := by
  intro n_
  induction n_ with
  | zero =>
    intro v1 v2 σ H locs ls hf
    cases hf
  | succ n_ ih =>
    intro v1 v2 σ H locs ls hf hP hS hl
    have hf : (if (277 : Int32) ≤ v2 then fL (fu σ 164 3 ((σ 164 3) + (1 : Int32))) (fun σ1 => some (v1, σ1)) else fb v2 277 (fb (((277 : Int32) * (σ 164 3)) + v2) 1662 (fL (fu σ 167 (((277 : Int32) * (σ 164 3)) + v2).toNatClampNeg (σ 166 v2.toNatClampNeg)) (fun σ2 => (fun v1 v2 σ => f_X8_kept_b61 n_ v1 v2 σ) (v1) ((v2 + (1 : Int32))) σ2)))) = some (r, σ') := hf
    have hK61 := ih
    refine lv_iload_n C.1 C.2.1 (kd kX8_kept_0 34 rfl) rfl (lv_at hl 2 rfl) ?_
    refine lv_sipush (v := (277 : Int32)) C.1 C.2.1 (kd kX8_kept_0 35 rfl) (by decide) ?_
    refine lv_icmp_ge (tgt := 95) C.1 C.2.1 (kd kX8_kept_0 36 rfl) (by decide) (fun q => ?_) (fun q => ?_)
    · have hf := fif_pos q hf
      refine lv_aload_n C.1 C.2.1 (kd kX8_kept_0 52 rfl) rfl (lv_at hl 0 rfl) ?_
      refine lv_dup C.1 C.2.1 (kd kX8_kept_0 53 rfl) rfl ?_
      refine fl_get (j := 3) (v := .int (σ 164 3)) C hP rfl (Nat.le_of_ble_eq_true rfl) rfl inX8 (Nat.le_of_ble_eq_true rfl) tw_865 rfl (kd kX8_kept_0 54 rfl) ?_
      refine lv_iconst (v := (1 : Int32)) C.1 C.2.1 (kd kX8_kept_0 55 rfl) (by decide) ?_
      refine lv_iadd C.1 C.2.1 (kd kX8_kept_0 56 rfl) ?_
      obtain ⟨σ1, eσ1, hf⟩ := fL_some hf
      refine fl_put (j := 3) C hP hS rfl rfl (Nat.le_of_ble_eq_true rfl) rfl inX8 tyX8 tyX8_ok nmX8 (Nat.le_of_ble_eq_true rfl) tw_865 rfl rfl rfl (Nat.le_of_ble_eq_true rfl) (kd kX8_kept_0 57 rfl) (fun H locs hP hS => ?_)
      have hP : fH Γ σ1 H := by rw [eσ1]; exact hP
      refine lv_iload_n C.1 C.2.1 (kd kX8_kept_0 58 rfl) rfl (lv_at hl 1 rfl) ?_
      exact fl_iret C hP hS hf (kd kX8_kept_0 59 rfl)
    have hf := fif_neg q hf
    refine lv_aload_n C.1 C.2.1 (kd kX8_kept_0 37 rfl) rfl (lv_at hl 0 rfl) ?_
    refine fl_get (j := 2) (v := .ref (Γ.1 167)) C hP rfl (Nat.le_of_ble_eq_true rfl) rfl inX8 (Nat.le_of_ble_eq_true rfl) tw_864 rfl (kd kX8_kept_0 38 rfl) ?_
    refine lv_sipush (v := (277 : Int32)) C.1 C.2.1 (kd kX8_kept_0 39 rfl) (by decide) ?_
    refine lv_aload_n C.1 C.2.1 (kd kX8_kept_0 40 rfl) rfl (lv_at hl 0 rfl) ?_
    refine fl_get (j := 3) (v := .int (σ 164 3)) C hP rfl (Nat.le_of_ble_eq_true rfl) rfl inX8 (Nat.le_of_ble_eq_true rfl) tw_865 rfl (kd kX8_kept_0 41 rfl) ?_
    refine lv_imul C.1 C.2.1 (kd kX8_kept_0 42 rfl) ?_
    refine lv_iload_n C.1 C.2.1 (kd kX8_kept_0 43 rfl) rfl (lv_at hl 2 rfl) ?_
    refine lv_iadd C.1 C.2.1 (kd kX8_kept_0 44 rfl) ?_
    refine lv_aload_n C.1 C.2.1 (kd kX8_kept_0 45 rfl) rfl (lv_at hl 0 rfl) ?_
    refine fl_get (j := 1) (v := .ref (Γ.1 166)) C hP rfl (Nat.le_of_ble_eq_true rfl) rfl inX8 (Nat.le_of_ble_eq_true rfl) tw_863 rfl (kd kX8_kept_0 46 rfl) ?_
    refine lv_iload_n C.1 C.2.1 (kd kX8_kept_0 47 rfl) rfl (lv_at hl 2 rfl) ?_
    obtain ⟨hq, hf⟩ := fb_some hf
    refine fl_iald C hP rfl hq (kd kX8_kept_0 48 rfl) ?_
    obtain ⟨hq, hf⟩ := fb_some hf
    obtain ⟨σ2, eσ2, hf⟩ := fL_some hf
    refine fl_iast C hP hS rfl hq (kd kX8_kept_0 49 rfl) (fun H locs hP hS => ?_)
    have hP : fH Γ σ2 H := by rw [eσ2]; exact hP
    refine lv_iinc (v := (v2 + (1 : Int32))) (lv' := [(2, .int (v2 + (1 : Int32))), (0, .ref (Γ.1 164)), (1, .int v1)]) C.1 C.2.1 (kd kX8_kept_0 50 rfl) hl (k := 2) rfl rfl (Nat.le_of_ble_eq_true rfl) rfl (fun ls hl => ?_)
    refine lv_goto (tgt := 61) C.1 C.2.1 (kd kX8_kept_0 51 rfl) (by decide) ?_
    exact hK61 (v1) ((v2 + (1 : Int32))) σ2 H locs ls hf hP hS (lv_sub hl [1, 2, 0] rfl)
def f_X8_kept_b59 (v1 : Int32) (σ : fS) : Option (Int32 × fS) := f_X8_kept_b61 fN (v1) ((0 : Int32)) σ
set_option maxRecDepth 100000 in
set_option maxHeartbeats 4000000 in
theorem w_X8_kept_b59 {r : Int32} {σ' : fS}  (C : fC Γ p s m args meth c cX8_kept (some .int) RX8 3) : ∀ (v1 : Int32) (σ : fS) (H : Heap) (locs : List Loc) (ls : Array Slot), f_X8_kept_b59 v1 σ = some (r, σ') → fH Γ σ H → va_S (fAd Γ) s.heap H locs → lv_has ls 3 [(0, .ref (Γ.1 164)), (1, .int v1)] → W p l e ({ frames := 2, cells := 0, slots := 0, locals := 42 } : Room) s m args below meth c H locs 0 0 (MQ below (fQi Γ r σ') args s 0 0 (fAd Γ)) (F0 m 59 ls []) := by
  intro v1 σ H locs ls hf hP hS hl
  unfold f_X8_kept_b59 at hf
  refine lv_iconst (v := (0 : Int32)) C.1 C.2.1 (kd kX8_kept_0 32 rfl) (by decide) ?_
  refine lv_istore_n (lv' := [(2, .int (0 : Int32)), (0, .ref (Γ.1 164)), (1, .int v1)]) C.1 C.2.1 (kd kX8_kept_0 33 rfl) rfl hl (Nat.le_of_ble_eq_true rfl) rfl (fun ls hl => ?_)
  exact w_X8_kept_b61 C fN (v1) ((0 : Int32)) σ H locs ls hf hP hS (lv_sub hl [1, 2, 0] rfl)
def f_X8_kept_b20 : Nat → Int32 → Int32 → fS → Option (Int32 × fS)
  | 0, _, _, _ => none
  | n_ + 1, v1, v2, σ => (if (1385 : Int32) ≤ v2 then fL (fu σ 164 3 ((σ 164 3) - (1 : Int32))) (fun σ1 => f_X8_kept_b59 (v1) σ1) else fb (v2 + (277 : Int32)) 1662 (fb v2 1662 (fL (fu σ 167 v2.toNatClampNeg (σ 167 (v2 + (277 : Int32)).toNatClampNeg)) (fun σ2 => (fun v1 v2 σ => f_X8_kept_b20 n_ v1 v2 σ) (v1) ((v2 + (1 : Int32))) σ2))))
set_option maxRecDepth 100000 in
set_option maxHeartbeats 4000000 in
theorem w_X8_kept_b20 {r : Int32} {σ' : fS}  (C : fC Γ p s m args meth c cX8_kept (some .int) RX8 3) : ∀ (n_ : Nat) (v1 : Int32) (v2 : Int32) (σ : fS) (H : Heap) (locs : List Loc) (ls : Array Slot), f_X8_kept_b20 n_ v1 v2 σ = some (r, σ') → fH Γ σ H → va_S (fAd Γ) s.heap H locs → lv_has ls 3 [(0, .ref (Γ.1 164)), (1, .int v1), (2, .int v2)] → W p l e ({ frames := 2, cells := 0, slots := 0, locals := 42 } : Room) s m args below meth c H locs 0 0 (MQ below (fQi Γ r σ') args s 0 0 (fAd Γ)) (F0 m 20 ls []) := by
  intro n_
  induction n_ with
  | zero =>
    intro v1 v2 σ H locs ls hf
    cases hf
  | succ n_ ih =>
    intro v1 v2 σ H locs ls hf hP hS hl
    have hf : (if (1385 : Int32) ≤ v2 then fL (fu σ 164 3 ((σ 164 3) - (1 : Int32))) (fun σ1 => f_X8_kept_b59 (v1) σ1) else fb (v2 + (277 : Int32)) 1662 (fb v2 1662 (fL (fu σ 167 v2.toNatClampNeg (σ 167 (v2 + (277 : Int32)).toNatClampNeg)) (fun σ2 => (fun v1 v2 σ => f_X8_kept_b20 n_ v1 v2 σ) (v1) ((v2 + (1 : Int32))) σ2)))) = some (r, σ') := hf
    have hK20 := ih
    refine lv_iload_n C.1 C.2.1 (kd kX8_kept_0 11 rfl) rfl (lv_at hl 2 rfl) ?_
    refine lv_sipush (v := (1385 : Int32)) C.1 C.2.1 (kd kX8_kept_0 12 rfl) (by decide) ?_
    refine lv_icmp_ge (tgt := 49) C.1 C.2.1 (kd kX8_kept_0 13 rfl) (by decide) (fun q => ?_) (fun q => ?_)
    · have hf := fif_pos q hf
      refine lv_aload_n C.1 C.2.1 (kd kX8_kept_0 26 rfl) rfl (lv_at hl 0 rfl) ?_
      refine lv_dup C.1 C.2.1 (kd kX8_kept_0 27 rfl) rfl ?_
      refine fl_get (j := 3) (v := .int (σ 164 3)) C hP rfl (Nat.le_of_ble_eq_true rfl) rfl inX8 (Nat.le_of_ble_eq_true rfl) tw_865 rfl (kd kX8_kept_0 28 rfl) ?_
      refine lv_iconst (v := (1 : Int32)) C.1 C.2.1 (kd kX8_kept_0 29 rfl) (by decide) ?_
      refine lv_isub C.1 C.2.1 (kd kX8_kept_0 30 rfl) ?_
      obtain ⟨σ1, eσ1, hf⟩ := fL_some hf
      refine fl_put (j := 3) C hP hS rfl rfl (Nat.le_of_ble_eq_true rfl) rfl inX8 tyX8 tyX8_ok nmX8 (Nat.le_of_ble_eq_true rfl) tw_865 rfl rfl rfl (Nat.le_of_ble_eq_true rfl) (kd kX8_kept_0 31 rfl) (fun H locs hP hS => ?_)
      have hP : fH Γ σ1 H := by rw [eσ1]; exact hP
      exact w_X8_kept_b59 C (v1) σ1 H locs ls hf hP hS (lv_sub hl [0, 1] rfl)
    have hf := fif_neg q hf
    refine lv_aload_n C.1 C.2.1 (kd kX8_kept_0 14 rfl) rfl (lv_at hl 0 rfl) ?_
    refine fl_get (j := 2) (v := .ref (Γ.1 167)) C hP rfl (Nat.le_of_ble_eq_true rfl) rfl inX8 (Nat.le_of_ble_eq_true rfl) tw_864 rfl (kd kX8_kept_0 15 rfl) ?_
    refine lv_iload_n C.1 C.2.1 (kd kX8_kept_0 16 rfl) rfl (lv_at hl 2 rfl) ?_
    refine lv_aload_n C.1 C.2.1 (kd kX8_kept_0 17 rfl) rfl (lv_at hl 0 rfl) ?_
    refine fl_get (j := 2) (v := .ref (Γ.1 167)) C hP rfl (Nat.le_of_ble_eq_true rfl) rfl inX8 (Nat.le_of_ble_eq_true rfl) tw_864 rfl (kd kX8_kept_0 18 rfl) ?_
    refine lv_iload_n C.1 C.2.1 (kd kX8_kept_0 19 rfl) rfl (lv_at hl 2 rfl) ?_
    refine lv_sipush (v := (277 : Int32)) C.1 C.2.1 (kd kX8_kept_0 20 rfl) (by decide) ?_
    refine lv_iadd C.1 C.2.1 (kd kX8_kept_0 21 rfl) ?_
    obtain ⟨hq, hf⟩ := fb_some hf
    refine fl_iald C hP rfl hq (kd kX8_kept_0 22 rfl) ?_
    obtain ⟨hq, hf⟩ := fb_some hf
    obtain ⟨σ2, eσ2, hf⟩ := fL_some hf
    refine fl_iast C hP hS rfl hq (kd kX8_kept_0 23 rfl) (fun H locs hP hS => ?_)
    have hP : fH Γ σ2 H := by rw [eσ2]; exact hP
    refine lv_iinc (v := (v2 + (1 : Int32))) (lv' := [(2, .int (v2 + (1 : Int32))), (0, .ref (Γ.1 164)), (1, .int v1)]) C.1 C.2.1 (kd kX8_kept_0 24 rfl) hl (k := 2) rfl rfl (Nat.le_of_ble_eq_true rfl) rfl (fun ls hl => ?_)
    refine lv_goto (tgt := 20) C.1 C.2.1 (kd kX8_kept_0 25 rfl) (by decide) ?_
    exact hK20 (v1) ((v2 + (1 : Int32))) σ2 H locs ls hf hP hS (lv_sub hl [1, 2, 0] rfl)
def f_X8_kept (x1 : Int32) (σ : fS) : Option (Int32 × fS) := fcall (f_X8_errs x1 σ) (fun r1_ σ1 => (if r1_ = 0 then (if (σ1 164 3) = (6 : Int32) then f_X8_kept_b20 fN (x1) ((0 : Int32)) σ1 else f_X8_kept_b59 (x1) σ1) else some (x1, σ1)))
set_option maxRecDepth 100000 in
set_option maxHeartbeats 4000000 in
theorem m_X8_kept {Γ : fGm} (hI : fI Γ) (l : Launch) {x1 : Int32} {σ : fS} {r : Int32} {σ' : fS} (hf : f_X8_kept x1 σ = some (r, σ')) : Met l yX8_kept (.code yX8_kept cX8_kept 3 (some .int) :: lw_g) ({ frames := 2, cells := 0, slots := 0, locals := 42 } : Room) (fPre Γ [.ref (Γ.1 164), .int x1] σ) (fQi Γ r σ') 0 0 (fAd Γ) := by
  refine fl_enter (own := RX8) hI (by decide +kernel) rfl (Nat.le_of_ble_eq_true rfl) ?_
  intro p e s m args below meth c ls C hl hP hS
  have hl : lv_has ls 3 [(0, .ref (Γ.1 164)), (1, .int x1)] := hl
  obtain ⟨H, hH⟩ : ∃ H, H = s.heap := ⟨_, rfl⟩
  obtain ⟨locs, hL⟩ : ∃ L : List Loc, L = [] := ⟨_, rfl⟩
  have hP : fH Γ σ H := by rw [hH]; exact hP
  have hS : va_S (fAd Γ) s.heap H locs := by rw [hH, hL]; exact hS
  suffices hw : W p l e ({ frames := 2, cells := 0, slots := 0, locals := 42 } : Room) s m args below meth c H locs 0 0 (MQ below (fQi Γ r σ') args s 0 0 (fAd Γ)) (F0 m 0 ls []) by rw [hH, hL] at hw; exact hw
  unfold f_X8_kept at hf
  refine lv_iload_n C.1 C.2.1 (kd kX8_kept_0 0 rfl) rfl (lv_at hl 1 rfl) ?_
  obtain ⟨r1_, σ1, hσ1, hf⟩ := fcall_some hf
  refine fl_i hS (fl_runS (As := [.int x1]) (rest := []) C hP (m_X8_errs C.2.2.2.2.2.2.2.2 l  hσ1) (fgS tw_975 tw_976 tw_75 tw_977) hs_X8_errs ⟨rfl, rfl, Nat.le_of_ble_eq_true rfl, Nat.le_of_ble_eq_true rfl⟩ rfl hl.1 rfl (Nat.le_of_ble_eq_true rfl) (kd kX8_kept_0 1 rfl)) (fun H locs hP hS => ?_)
  refine lv_if_eq (tgt := 9) C.1 C.2.1 (kd kX8_kept_0 2 rfl) (by decide) (fun q => ?_) (fun q => ?_)
  · have hf := fif_pos q hf
    refine lv_aload_n C.1 C.2.1 (kd kX8_kept_0 5 rfl) rfl (lv_at hl 0 rfl) ?_
    refine fl_get (j := 3) (v := .int (σ1 164 3)) C hP rfl (Nat.le_of_ble_eq_true rfl) rfl inX8 (Nat.le_of_ble_eq_true rfl) tw_865 rfl (kd kX8_kept_0 6 rfl) ?_
    refine lv_bipush (v := (6 : Int32)) C.1 C.2.1 (kd kX8_kept_0 7 rfl) (by decide) ?_
    refine lv_icmp_ne (tgt := 59) C.1 C.2.1 (kd kX8_kept_0 8 rfl) (by decide) (fun q => ?_) (fun q => ?_)
    · have hf := fif_neg q hf
      exact w_X8_kept_b59 C (x1) σ1 H locs ls hf hP hS (lv_sub hl [0, 1] rfl)
    have hf := fif_pos q hf
    refine lv_iconst (v := (0 : Int32)) C.1 C.2.1 (kd kX8_kept_0 9 rfl) (by decide) ?_
    refine lv_istore_n (lv' := [(2, .int (0 : Int32)), (0, .ref (Γ.1 164)), (1, .int x1)]) C.1 C.2.1 (kd kX8_kept_0 10 rfl) rfl hl (Nat.le_of_ble_eq_true rfl) rfl (fun ls hl => ?_)
    exact w_X8_kept_b20 C fN (x1) ((0 : Int32)) σ1 H locs ls hf hP hS (lv_sub hl [1, 2, 0] rfl)
  have hf := fif_neg q hf
  refine lv_iload_n C.1 C.2.1 (kd kX8_kept_0 3 rfl) rfl (lv_at hl 1 rfl) ?_
  exact fl_iret C hP hS hf (kd kX8_kept_0 4 rfl)
def f_X8_addsShip (x1 : Int32) (x2 : Int32) (x3 : Int32) (x4 : Int32) (σ : fS) : Option (Int32 × fS) := fcall (f_X8_in x1 (50 : Int32) (900 : Int32) σ) (fun r1_ σ1 => (if r1_ = 0 then some ((-10002 : Int32), σ1) else fcall (f_X8_in x2 (1 : Int32) (4 : Int32) σ1) (fun r2_ σ2 => (if r2_ = 0 then some ((-10002 : Int32), σ2) else fcall (f_X8_in x3 (10 : Int32) (200 : Int32) σ2) (fun r3_ σ3 => (if r3_ = 0 then some ((-10002 : Int32), σ3) else fcall (f_X8_in x4 (0 : Int32) (99 : Int32) σ3) (fun r4_ σ4 => (if r4_ = 0 then some ((-10002 : Int32), σ4) else fb (98 : Int32) 277 ((if (σ4 165 (98 : Int32).toNatClampNeg) = (4 : Int32) then some ((-10003 : Int32), σ4) else fb (98 : Int32) 277 (fb ((99 : Int32) + ((4 : Int32) * (σ4 165 (98 : Int32).toNatClampNeg))) 277 (fL (fu σ4 165 ((99 : Int32) + ((4 : Int32) * (σ4 165 (98 : Int32).toNatClampNeg))).toNatClampNeg x1) (fun σ5 => fb (((99 : Int32) + ((4 : Int32) * (σ4 165 (98 : Int32).toNatClampNeg))) + (1 : Int32)) 277 (fL (fu σ5 165 (((99 : Int32) + ((4 : Int32) * (σ4 165 (98 : Int32).toNatClampNeg))) + (1 : Int32)).toNatClampNeg x2) (fun σ6 => fb (((99 : Int32) + ((4 : Int32) * (σ4 165 (98 : Int32).toNatClampNeg))) + (2 : Int32)) 277 (fL (fu σ6 165 (((99 : Int32) + ((4 : Int32) * (σ4 165 (98 : Int32).toNatClampNeg))) + (2 : Int32)).toNatClampNeg x3) (fun σ7 => fb (((99 : Int32) + ((4 : Int32) * (σ4 165 (98 : Int32).toNatClampNeg))) + (3 : Int32)) 277 (fL (fu σ7 165 (((99 : Int32) + ((4 : Int32) * (σ4 165 (98 : Int32).toNatClampNeg))) + (3 : Int32)).toNatClampNeg x4) (fun σ8 => fb (98 : Int32) 277 (fb (98 : Int32) 277 (fL (fu σ8 165 (98 : Int32).toNatClampNeg ((σ8 165 (98 : Int32).toNatClampNeg) + (1 : Int32))) (fun σ9 => fb (98 : Int32) 277 (some (((σ9 165 (98 : Int32).toNatClampNeg) - (1 : Int32)), σ9))))))))))))))))))))))))
set_option maxRecDepth 100000 in
set_option maxHeartbeats 4000000 in
theorem m_X8_addsShip {Γ : fGm} (hI : fI Γ) (l : Launch) {x1 : Int32} {x2 : Int32} {x3 : Int32} {x4 : Int32} {σ : fS} {r : Int32} {σ' : fS} (hf : f_X8_addsShip x1 x2 x3 x4 σ = some (r, σ')) : Met l yX8_addsShip (.code yX8_addsShip cX8_addsShip 6 (some .int) :: lw_g) ({ frames := 1, cells := 0, slots := 0, locals := 22 } : Room) (fPre Γ [.ref (Γ.1 164), .int x1, .int x2, .int x3, .int x4] σ) (fQi Γ r σ') 0 0 (fAd Γ) := by
  refine fl_enter (own := RX8) hI (by decide +kernel) rfl (Nat.le_of_ble_eq_true rfl) ?_
  intro p e s m args below meth c ls C hl hP hS
  have hl : lv_has ls 6 [(0, .ref (Γ.1 164)), (1, .int x1), (2, .int x2), (3, .int x3), (4, .int x4)] := hl
  obtain ⟨H, hH⟩ : ∃ H, H = s.heap := ⟨_, rfl⟩
  obtain ⟨locs, hL⟩ : ∃ L : List Loc, L = [] := ⟨_, rfl⟩
  have hP : fH Γ σ H := by rw [hH]; exact hP
  have hS : va_S (fAd Γ) s.heap H locs := by rw [hH, hL]; exact hS
  suffices hw : W p l e ({ frames := 1, cells := 0, slots := 0, locals := 22 } : Room) s m args below meth c H locs 0 0 (MQ below (fQi Γ r σ') args s 0 0 (fAd Γ)) (F0 m 0 ls []) by rw [hH, hL] at hw; exact hw
  unfold f_X8_addsShip at hf
  refine lv_iload_n C.1 C.2.1 (kd kX8_addsShip_0 0 rfl) rfl (lv_at hl 1 rfl) ?_
  refine lv_bipush (v := (50 : Int32)) C.1 C.2.1 (kd kX8_addsShip_0 1 rfl) (by decide) ?_
  refine lv_sipush (v := (900 : Int32)) C.1 C.2.1 (kd kX8_addsShip_0 2 rfl) (by decide) ?_
  obtain ⟨r1_, σ1, hσ1, hf⟩ := fcall_some hf
  refine fl_i hS (fl_runS (As := [.int x1, .int (50 : Int32), .int (900 : Int32)]) (rest := []) C hP (m_X8_in C.2.2.2.2.2.2.2.2 l  hσ1) (fgS tw_968 tw_969 tw_75 tw_970) hs_X8_in ⟨rfl, rfl, Nat.le_of_ble_eq_true rfl, Nat.le_of_ble_eq_true rfl⟩ rfl hl.1 rfl (Nat.le_of_ble_eq_true rfl) (kd kX8_addsShip_0 3 rfl)) (fun H locs hP hS => ?_)
  refine lv_if_eq (tgt := 44) C.1 C.2.1 (kd kX8_addsShip_0 4 rfl) (by decide) (fun q => ?_) (fun q => ?_)
  · have hf := fif_pos q hf
    refine lv_sipush (v := (-10002 : Int32)) C.1 C.2.1 (kd kX8_addsShip_0 20 rfl) (by decide) ?_
    exact fl_iret C hP hS hf (kd kX8_addsShip_0 21 rfl)
  have hf := fif_neg q hf
  refine lv_iload_n C.1 C.2.1 (kd kX8_addsShip_0 5 rfl) rfl (lv_at hl 2 rfl) ?_
  refine lv_iconst (v := (1 : Int32)) C.1 C.2.1 (kd kX8_addsShip_0 6 rfl) (by decide) ?_
  refine lv_iconst (v := (4 : Int32)) C.1 C.2.1 (kd kX8_addsShip_0 7 rfl) (by decide) ?_
  obtain ⟨r2_, σ2, hσ2, hf⟩ := fcall_some hf
  refine fl_i hS (fl_runS (As := [.int x2, .int (1 : Int32), .int (4 : Int32)]) (rest := []) C hP (m_X8_in C.2.2.2.2.2.2.2.2 l  hσ2) (fgS tw_968 tw_969 tw_75 tw_970) hs_X8_in ⟨rfl, rfl, Nat.le_of_ble_eq_true rfl, Nat.le_of_ble_eq_true rfl⟩ rfl hl.1 rfl (Nat.le_of_ble_eq_true rfl) (kd kX8_addsShip_0 8 rfl)) (fun H locs hP hS => ?_)
  refine lv_if_eq (tgt := 44) C.1 C.2.1 (kd kX8_addsShip_0 9 rfl) (by decide) (fun q => ?_) (fun q => ?_)
  · have hf := fif_pos q hf
    refine lv_sipush (v := (-10002 : Int32)) C.1 C.2.1 (kd kX8_addsShip_0 20 rfl) (by decide) ?_
    exact fl_iret C hP hS hf (kd kX8_addsShip_0 21 rfl)
  have hf := fif_neg q hf
  refine lv_iload_n C.1 C.2.1 (kd kX8_addsShip_0 10 rfl) rfl (lv_at hl 3 rfl) ?_
  refine lv_bipush (v := (10 : Int32)) C.1 C.2.1 (kd kX8_addsShip_0 11 rfl) (by decide) ?_
  refine lv_sipush (v := (200 : Int32)) C.1 C.2.1 (kd kX8_addsShip_0 12 rfl) (by decide) ?_
  obtain ⟨r3_, σ3, hσ3, hf⟩ := fcall_some hf
  refine fl_i hS (fl_runS (As := [.int x3, .int (10 : Int32), .int (200 : Int32)]) (rest := []) C hP (m_X8_in C.2.2.2.2.2.2.2.2 l  hσ3) (fgS tw_968 tw_969 tw_75 tw_970) hs_X8_in ⟨rfl, rfl, Nat.le_of_ble_eq_true rfl, Nat.le_of_ble_eq_true rfl⟩ rfl hl.1 rfl (Nat.le_of_ble_eq_true rfl) (kd kX8_addsShip_0 13 rfl)) (fun H locs hP hS => ?_)
  refine lv_if_eq (tgt := 44) C.1 C.2.1 (kd kX8_addsShip_0 14 rfl) (by decide) (fun q => ?_) (fun q => ?_)
  · have hf := fif_pos q hf
    refine lv_sipush (v := (-10002 : Int32)) C.1 C.2.1 (kd kX8_addsShip_0 20 rfl) (by decide) ?_
    exact fl_iret C hP hS hf (kd kX8_addsShip_0 21 rfl)
  have hf := fif_neg q hf
  refine lv_iload C.1 C.2.1 (kd kX8_addsShip_0 15 rfl) (lv_at hl 4 rfl) ?_
  refine lv_iconst (v := (0 : Int32)) C.1 C.2.1 (kd kX8_addsShip_0 16 rfl) (by decide) ?_
  refine lv_bipush (v := (99 : Int32)) C.1 C.2.1 (kd kX8_addsShip_0 17 rfl) (by decide) ?_
  obtain ⟨r4_, σ4, hσ4, hf⟩ := fcall_some hf
  refine fl_i hS (fl_runS (As := [.int x4, .int (0 : Int32), .int (99 : Int32)]) (rest := []) C hP (m_X8_in C.2.2.2.2.2.2.2.2 l  hσ4) (fgS tw_968 tw_969 tw_75 tw_970) hs_X8_in ⟨rfl, rfl, Nat.le_of_ble_eq_true rfl, Nat.le_of_ble_eq_true rfl⟩ rfl hl.1 rfl (Nat.le_of_ble_eq_true rfl) (kd kX8_addsShip_0 18 rfl)) (fun H locs hP hS => ?_)
  refine lv_if_ne (tgt := 48) C.1 C.2.1 (kd kX8_addsShip_0 19 rfl) (by decide) (fun q => ?_) (fun q => ?_)
  · have hf := fif_neg q hf
    refine lv_aload_n C.1 C.2.1 (kd kX8_addsShip_0 22 rfl) rfl (lv_at hl 0 rfl) ?_
    refine fl_get (j := 0) (v := .ref (Γ.1 165)) C hP rfl (Nat.le_of_ble_eq_true rfl) rfl inX8 (Nat.le_of_ble_eq_true rfl) tw_862 rfl (kd kX8_addsShip_0 23 rfl) ?_
    refine lv_bipush (v := (98 : Int32)) C.1 C.2.1 (kd kX8_addsShip_0 24 rfl) (by decide) ?_
    obtain ⟨hq, hf⟩ := fb_some hf
    refine fl_iald C hP rfl hq (kd kX8_addsShip_0 25 rfl) ?_
    refine lv_iconst (v := (4 : Int32)) C.1 C.2.1 (kd kX8_addsShip_0 26 rfl) (by decide) ?_
    refine lv_icmp_ne (tgt := 63) C.1 C.2.1 (kd kX8_addsShip_0 27 rfl) (by decide) (fun q => ?_) (fun q => ?_)
    · have hf := fif_neg q hf
      refine lv_bipush (v := (99 : Int32)) C.1 C.2.1 (kd kX8_addsShip_0 30 rfl) (by decide) ?_
      refine lv_iconst (v := (4 : Int32)) C.1 C.2.1 (kd kX8_addsShip_0 31 rfl) (by decide) ?_
      refine lv_aload_n C.1 C.2.1 (kd kX8_addsShip_0 32 rfl) rfl (lv_at hl 0 rfl) ?_
      refine fl_get (j := 0) (v := .ref (Γ.1 165)) C hP rfl (Nat.le_of_ble_eq_true rfl) rfl inX8 (Nat.le_of_ble_eq_true rfl) tw_862 rfl (kd kX8_addsShip_0 33 rfl) ?_
      refine lv_bipush (v := (98 : Int32)) C.1 C.2.1 (kd kX8_addsShip_0 34 rfl) (by decide) ?_
      obtain ⟨hq, hf⟩ := fb_some hf
      refine fl_iald C hP rfl hq (kd kX8_addsShip_0 35 rfl) ?_
      refine lv_imul C.1 C.2.1 (kd kX8_addsShip_0 36 rfl) ?_
      refine lv_iadd C.1 C.2.1 (kd kX8_addsShip_0 37 rfl) ?_
      refine lv_istore (lv' := [(5, .int ((99 : Int32) + ((4 : Int32) * (σ4 165 (98 : Int32).toNatClampNeg)))), (0, .ref (Γ.1 164)), (1, .int x1), (2, .int x2), (3, .int x3), (4, .int x4)]) C.1 C.2.1 (kd kX8_addsShip_0 38 rfl) hl (Nat.le_of_ble_eq_true rfl) rfl (fun ls hl => ?_)
      refine lv_aload_n C.1 C.2.1 (kd kX8_addsShip_0 39 rfl) rfl (lv_at hl 1 rfl) ?_
      refine fl_get (j := 0) (v := .ref (Γ.1 165)) C hP rfl (Nat.le_of_ble_eq_true rfl) rfl inX8 (Nat.le_of_ble_eq_true rfl) tw_862 rfl (kd kX8_addsShip_0 40 rfl) ?_
      refine lv_iload C.1 C.2.1 (kd kX8_addsShip_0 41 rfl) (lv_at hl 0 rfl) ?_
      refine lv_iload_n C.1 C.2.1 (kd kX8_addsShip_0 42 rfl) rfl (lv_at hl 2 rfl) ?_
      obtain ⟨hq, hf⟩ := fb_some hf
      obtain ⟨σ5, eσ5, hf⟩ := fL_some hf
      refine fl_iast C hP hS rfl hq (kd kX8_addsShip_0 43 rfl) (fun H locs hP hS => ?_)
      have hP : fH Γ σ5 H := by rw [eσ5]; exact hP
      refine lv_aload_n C.1 C.2.1 (kd kX8_addsShip_0 44 rfl) rfl (lv_at hl 1 rfl) ?_
      refine fl_get (j := 0) (v := .ref (Γ.1 165)) C hP rfl (Nat.le_of_ble_eq_true rfl) rfl inX8 (Nat.le_of_ble_eq_true rfl) tw_862 rfl (kd kX8_addsShip_0 45 rfl) ?_
      refine lv_iload C.1 C.2.1 (kd kX8_addsShip_0 46 rfl) (lv_at hl 0 rfl) ?_
      refine lv_iconst (v := (1 : Int32)) C.1 C.2.1 (kd kX8_addsShip_0 47 rfl) (by decide) ?_
      refine lv_iadd C.1 C.2.1 (kd kX8_addsShip_0 48 rfl) ?_
      refine lv_iload_n C.1 C.2.1 (kd kX8_addsShip_0 49 rfl) rfl (lv_at hl 3 rfl) ?_
      obtain ⟨hq, hf⟩ := fb_some hf
      obtain ⟨σ6, eσ6, hf⟩ := fL_some hf
      refine fl_iast C hP hS rfl hq (kd kX8_addsShip_0 50 rfl) (fun H locs hP hS => ?_)
      have hP : fH Γ σ6 H := by rw [eσ6]; exact hP
      refine lv_aload_n C.1 C.2.1 (kd kX8_addsShip_0 51 rfl) rfl (lv_at hl 1 rfl) ?_
      refine fl_get (j := 0) (v := .ref (Γ.1 165)) C hP rfl (Nat.le_of_ble_eq_true rfl) rfl inX8 (Nat.le_of_ble_eq_true rfl) tw_862 rfl (kd kX8_addsShip_0 52 rfl) ?_
      refine lv_iload C.1 C.2.1 (kd kX8_addsShip_0 53 rfl) (lv_at hl 0 rfl) ?_
      refine lv_iconst (v := (2 : Int32)) C.1 C.2.1 (kd kX8_addsShip_0 54 rfl) (by decide) ?_
      refine lv_iadd C.1 C.2.1 (kd kX8_addsShip_0 55 rfl) ?_
      refine lv_iload_n C.1 C.2.1 (kd kX8_addsShip_0 56 rfl) rfl (lv_at hl 4 rfl) ?_
      obtain ⟨hq, hf⟩ := fb_some hf
      obtain ⟨σ7, eσ7, hf⟩ := fL_some hf
      refine fl_iast C hP hS rfl hq (kd kX8_addsShip_0 57 rfl) (fun H locs hP hS => ?_)
      have hP : fH Γ σ7 H := by rw [eσ7]; exact hP
      refine lv_aload_n C.1 C.2.1 (kd kX8_addsShip_0 58 rfl) rfl (lv_at hl 1 rfl) ?_
      refine fl_get (j := 0) (v := .ref (Γ.1 165)) C hP rfl (Nat.le_of_ble_eq_true rfl) rfl inX8 (Nat.le_of_ble_eq_true rfl) tw_862 rfl (kd kX8_addsShip_0 59 rfl) ?_
      refine lv_iload C.1 C.2.1 (kd kX8_addsShip_1 0 rfl) (lv_at hl 0 rfl) ?_
      refine lv_iconst (v := (3 : Int32)) C.1 C.2.1 (kd kX8_addsShip_1 1 rfl) (by decide) ?_
      refine lv_iadd C.1 C.2.1 (kd kX8_addsShip_1 2 rfl) ?_
      refine lv_iload C.1 C.2.1 (kd kX8_addsShip_1 3 rfl) (lv_at hl 5 rfl) ?_
      obtain ⟨hq, hf⟩ := fb_some hf
      obtain ⟨σ8, eσ8, hf⟩ := fL_some hf
      refine fl_iast C hP hS rfl hq (kd kX8_addsShip_1 4 rfl) (fun H locs hP hS => ?_)
      have hP : fH Γ σ8 H := by rw [eσ8]; exact hP
      refine lv_aload_n C.1 C.2.1 (kd kX8_addsShip_1 5 rfl) rfl (lv_at hl 1 rfl) ?_
      refine fl_get (j := 0) (v := .ref (Γ.1 165)) C hP rfl (Nat.le_of_ble_eq_true rfl) rfl inX8 (Nat.le_of_ble_eq_true rfl) tw_862 rfl (kd kX8_addsShip_1 6 rfl) ?_
      refine lv_bipush (v := (98 : Int32)) C.1 C.2.1 (kd kX8_addsShip_1 7 rfl) (by decide) ?_
      refine lv_dup2_11 C.1 C.2.1 (kd kX8_addsShip_1 8 rfl) rfl rfl ?_
      obtain ⟨hq, hf⟩ := fb_some hf
      refine fl_iald C hP rfl hq (kd kX8_addsShip_1 9 rfl) ?_
      refine lv_iconst (v := (1 : Int32)) C.1 C.2.1 (kd kX8_addsShip_1 10 rfl) (by decide) ?_
      refine lv_iadd C.1 C.2.1 (kd kX8_addsShip_1 11 rfl) ?_
      obtain ⟨hq, hf⟩ := fb_some hf
      obtain ⟨σ9, eσ9, hf⟩ := fL_some hf
      refine fl_iast C hP hS rfl hq (kd kX8_addsShip_1 12 rfl) (fun H locs hP hS => ?_)
      have hP : fH Γ σ9 H := by rw [eσ9]; exact hP
      refine lv_aload_n C.1 C.2.1 (kd kX8_addsShip_1 13 rfl) rfl (lv_at hl 1 rfl) ?_
      refine fl_get (j := 0) (v := .ref (Γ.1 165)) C hP rfl (Nat.le_of_ble_eq_true rfl) rfl inX8 (Nat.le_of_ble_eq_true rfl) tw_862 rfl (kd kX8_addsShip_1 14 rfl) ?_
      refine lv_bipush (v := (98 : Int32)) C.1 C.2.1 (kd kX8_addsShip_1 15 rfl) (by decide) ?_
      obtain ⟨hq, hf⟩ := fb_some hf
      refine fl_iald C hP rfl hq (kd kX8_addsShip_1 16 rfl) ?_
      refine lv_iconst (v := (1 : Int32)) C.1 C.2.1 (kd kX8_addsShip_1 17 rfl) (by decide) ?_
      refine lv_isub C.1 C.2.1 (kd kX8_addsShip_1 18 rfl) ?_
      exact fl_iret C hP hS hf (kd kX8_addsShip_1 19 rfl)
    have hf := fif_pos q hf
    refine lv_sipush (v := (-10003 : Int32)) C.1 C.2.1 (kd kX8_addsShip_0 28 rfl) (by decide) ?_
    exact fl_iret C hP hS hf (kd kX8_addsShip_0 29 rfl)
  have hf := fif_pos q hf
  refine lv_sipush (v := (-10002 : Int32)) C.1 C.2.1 (kd kX8_addsShip_0 20 rfl) (by decide) ?_
  exact fl_iret C hP hS hf (kd kX8_addsShip_0 21 rfl)
def f_X8_addsBerth (x1 : Int32) (x2 : Int32) (σ : fS) : Option (Int32 × fS) := fcall (f_X8_in x1 (0 : Int32) (999 : Int32) σ) (fun r1_ σ1 => (if r1_ = 0 then some ((-10002 : Int32), σ1) else fcall (f_X8_in x2 (1 : Int32) (2 : Int32) σ1) (fun r2_ σ2 => (if r2_ = 0 then some ((-10002 : Int32), σ2) else fb (115 : Int32) 277 ((if (σ2 165 (115 : Int32).toNatClampNeg) = (3 : Int32) then some ((-10003 : Int32), σ2) else fb (115 : Int32) 277 (fb ((116 : Int32) + ((2 : Int32) * (σ2 165 (115 : Int32).toNatClampNeg))) 277 (fL (fu σ2 165 ((116 : Int32) + ((2 : Int32) * (σ2 165 (115 : Int32).toNatClampNeg))).toNatClampNeg x1) (fun σ3 => fb (115 : Int32) 277 (fb (((116 : Int32) + ((2 : Int32) * (σ3 165 (115 : Int32).toNatClampNeg))) + (1 : Int32)) 277 (fL (fu σ3 165 (((116 : Int32) + ((2 : Int32) * (σ3 165 (115 : Int32).toNatClampNeg))) + (1 : Int32)).toNatClampNeg x2) (fun σ4 => fb (115 : Int32) 277 (fb (115 : Int32) 277 (fL (fu σ4 165 (115 : Int32).toNatClampNeg ((σ4 165 (115 : Int32).toNatClampNeg) + (1 : Int32))) (fun σ5 => fb (115 : Int32) 277 (some (((σ5 165 (115 : Int32).toNatClampNeg) - (1 : Int32)), σ5)))))))))))))))))
set_option maxRecDepth 100000 in
set_option maxHeartbeats 4000000 in
theorem m_X8_addsBerth {Γ : fGm} (hI : fI Γ) (l : Launch) {x1 : Int32} {x2 : Int32} {σ : fS} {r : Int32} {σ' : fS} (hf : f_X8_addsBerth x1 x2 σ = some (r, σ')) : Met l yX8_addsBerth (.code yX8_addsBerth cX8_addsBerth 3 (some .int) :: lw_g) ({ frames := 1, cells := 0, slots := 0, locals := 22 } : Room) (fPre Γ [.ref (Γ.1 164), .int x1, .int x2] σ) (fQi Γ r σ') 0 0 (fAd Γ) := by
  refine fl_enter (own := RX8) hI (by decide +kernel) rfl (Nat.le_of_ble_eq_true rfl) ?_
  intro p e s m args below meth c ls C hl hP hS
  have hl : lv_has ls 3 [(0, .ref (Γ.1 164)), (1, .int x1), (2, .int x2)] := hl
  obtain ⟨H, hH⟩ : ∃ H, H = s.heap := ⟨_, rfl⟩
  obtain ⟨locs, hL⟩ : ∃ L : List Loc, L = [] := ⟨_, rfl⟩
  have hP : fH Γ σ H := by rw [hH]; exact hP
  have hS : va_S (fAd Γ) s.heap H locs := by rw [hH, hL]; exact hS
  suffices hw : W p l e ({ frames := 1, cells := 0, slots := 0, locals := 22 } : Room) s m args below meth c H locs 0 0 (MQ below (fQi Γ r σ') args s 0 0 (fAd Γ)) (F0 m 0 ls []) by rw [hH, hL] at hw; exact hw
  unfold f_X8_addsBerth at hf
  refine lv_iload_n C.1 C.2.1 (kd kX8_addsBerth_0 0 rfl) rfl (lv_at hl 1 rfl) ?_
  refine lv_iconst (v := (0 : Int32)) C.1 C.2.1 (kd kX8_addsBerth_0 1 rfl) (by decide) ?_
  refine lv_sipush (v := (999 : Int32)) C.1 C.2.1 (kd kX8_addsBerth_0 2 rfl) (by decide) ?_
  obtain ⟨r1_, σ1, hσ1, hf⟩ := fcall_some hf
  refine fl_i hS (fl_runS (As := [.int x1, .int (0 : Int32), .int (999 : Int32)]) (rest := []) C hP (m_X8_in C.2.2.2.2.2.2.2.2 l  hσ1) (fgS tw_968 tw_969 tw_75 tw_970) hs_X8_in ⟨rfl, rfl, Nat.le_of_ble_eq_true rfl, Nat.le_of_ble_eq_true rfl⟩ rfl hl.1 rfl (Nat.le_of_ble_eq_true rfl) (kd kX8_addsBerth_0 3 rfl)) (fun H locs hP hS => ?_)
  refine lv_if_eq (tgt := 20) C.1 C.2.1 (kd kX8_addsBerth_0 4 rfl) (by decide) (fun q => ?_) (fun q => ?_)
  · have hf := fif_pos q hf
    refine lv_sipush (v := (-10002 : Int32)) C.1 C.2.1 (kd kX8_addsBerth_0 10 rfl) (by decide) ?_
    exact fl_iret C hP hS hf (kd kX8_addsBerth_0 11 rfl)
  have hf := fif_neg q hf
  refine lv_iload_n C.1 C.2.1 (kd kX8_addsBerth_0 5 rfl) rfl (lv_at hl 2 rfl) ?_
  refine lv_iconst (v := (1 : Int32)) C.1 C.2.1 (kd kX8_addsBerth_0 6 rfl) (by decide) ?_
  refine lv_iconst (v := (2 : Int32)) C.1 C.2.1 (kd kX8_addsBerth_0 7 rfl) (by decide) ?_
  obtain ⟨r2_, σ2, hσ2, hf⟩ := fcall_some hf
  refine fl_i hS (fl_runS (As := [.int x2, .int (1 : Int32), .int (2 : Int32)]) (rest := []) C hP (m_X8_in C.2.2.2.2.2.2.2.2 l  hσ2) (fgS tw_968 tw_969 tw_75 tw_970) hs_X8_in ⟨rfl, rfl, Nat.le_of_ble_eq_true rfl, Nat.le_of_ble_eq_true rfl⟩ rfl hl.1 rfl (Nat.le_of_ble_eq_true rfl) (kd kX8_addsBerth_0 8 rfl)) (fun H locs hP hS => ?_)
  refine lv_if_ne (tgt := 24) C.1 C.2.1 (kd kX8_addsBerth_0 9 rfl) (by decide) (fun q => ?_) (fun q => ?_)
  · have hf := fif_neg q hf
    refine lv_aload_n C.1 C.2.1 (kd kX8_addsBerth_0 12 rfl) rfl (lv_at hl 0 rfl) ?_
    refine fl_get (j := 0) (v := .ref (Γ.1 165)) C hP rfl (Nat.le_of_ble_eq_true rfl) rfl inX8 (Nat.le_of_ble_eq_true rfl) tw_862 rfl (kd kX8_addsBerth_0 13 rfl) ?_
    refine lv_bipush (v := (115 : Int32)) C.1 C.2.1 (kd kX8_addsBerth_0 14 rfl) (by decide) ?_
    obtain ⟨hq, hf⟩ := fb_some hf
    refine fl_iald C hP rfl hq (kd kX8_addsBerth_0 15 rfl) ?_
    refine lv_iconst (v := (3 : Int32)) C.1 C.2.1 (kd kX8_addsBerth_0 16 rfl) (by decide) ?_
    refine lv_icmp_ne (tgt := 39) C.1 C.2.1 (kd kX8_addsBerth_0 17 rfl) (by decide) (fun q => ?_) (fun q => ?_)
    · have hf := fif_neg q hf
      refine lv_aload_n C.1 C.2.1 (kd kX8_addsBerth_0 20 rfl) rfl (lv_at hl 0 rfl) ?_
      refine fl_get (j := 0) (v := .ref (Γ.1 165)) C hP rfl (Nat.le_of_ble_eq_true rfl) rfl inX8 (Nat.le_of_ble_eq_true rfl) tw_862 rfl (kd kX8_addsBerth_0 21 rfl) ?_
      refine lv_bipush (v := (116 : Int32)) C.1 C.2.1 (kd kX8_addsBerth_0 22 rfl) (by decide) ?_
      refine lv_iconst (v := (2 : Int32)) C.1 C.2.1 (kd kX8_addsBerth_0 23 rfl) (by decide) ?_
      refine lv_aload_n C.1 C.2.1 (kd kX8_addsBerth_0 24 rfl) rfl (lv_at hl 0 rfl) ?_
      refine fl_get (j := 0) (v := .ref (Γ.1 165)) C hP rfl (Nat.le_of_ble_eq_true rfl) rfl inX8 (Nat.le_of_ble_eq_true rfl) tw_862 rfl (kd kX8_addsBerth_0 25 rfl) ?_
      refine lv_bipush (v := (115 : Int32)) C.1 C.2.1 (kd kX8_addsBerth_0 26 rfl) (by decide) ?_
      obtain ⟨hq, hf⟩ := fb_some hf
      refine fl_iald C hP rfl hq (kd kX8_addsBerth_0 27 rfl) ?_
      refine lv_imul C.1 C.2.1 (kd kX8_addsBerth_0 28 rfl) ?_
      refine lv_iadd C.1 C.2.1 (kd kX8_addsBerth_0 29 rfl) ?_
      refine lv_iload_n C.1 C.2.1 (kd kX8_addsBerth_0 30 rfl) rfl (lv_at hl 1 rfl) ?_
      obtain ⟨hq, hf⟩ := fb_some hf
      obtain ⟨σ3, eσ3, hf⟩ := fL_some hf
      refine fl_iast C hP hS rfl hq (kd kX8_addsBerth_0 31 rfl) (fun H locs hP hS => ?_)
      have hP : fH Γ σ3 H := by rw [eσ3]; exact hP
      refine lv_aload_n C.1 C.2.1 (kd kX8_addsBerth_0 32 rfl) rfl (lv_at hl 0 rfl) ?_
      refine fl_get (j := 0) (v := .ref (Γ.1 165)) C hP rfl (Nat.le_of_ble_eq_true rfl) rfl inX8 (Nat.le_of_ble_eq_true rfl) tw_862 rfl (kd kX8_addsBerth_0 33 rfl) ?_
      refine lv_bipush (v := (116 : Int32)) C.1 C.2.1 (kd kX8_addsBerth_0 34 rfl) (by decide) ?_
      refine lv_iconst (v := (2 : Int32)) C.1 C.2.1 (kd kX8_addsBerth_0 35 rfl) (by decide) ?_
      refine lv_aload_n C.1 C.2.1 (kd kX8_addsBerth_0 36 rfl) rfl (lv_at hl 0 rfl) ?_
      refine fl_get (j := 0) (v := .ref (Γ.1 165)) C hP rfl (Nat.le_of_ble_eq_true rfl) rfl inX8 (Nat.le_of_ble_eq_true rfl) tw_862 rfl (kd kX8_addsBerth_0 37 rfl) ?_
      refine lv_bipush (v := (115 : Int32)) C.1 C.2.1 (kd kX8_addsBerth_0 38 rfl) (by decide) ?_
      obtain ⟨hq, hf⟩ := fb_some hf
      refine fl_iald C hP rfl hq (kd kX8_addsBerth_0 39 rfl) ?_
      refine lv_imul C.1 C.2.1 (kd kX8_addsBerth_0 40 rfl) ?_
      refine lv_iadd C.1 C.2.1 (kd kX8_addsBerth_0 41 rfl) ?_
      refine lv_iconst (v := (1 : Int32)) C.1 C.2.1 (kd kX8_addsBerth_0 42 rfl) (by decide) ?_
      refine lv_iadd C.1 C.2.1 (kd kX8_addsBerth_0 43 rfl) ?_
      refine lv_iload_n C.1 C.2.1 (kd kX8_addsBerth_0 44 rfl) rfl (lv_at hl 2 rfl) ?_
      obtain ⟨hq, hf⟩ := fb_some hf
      obtain ⟨σ4, eσ4, hf⟩ := fL_some hf
      refine fl_iast C hP hS rfl hq (kd kX8_addsBerth_0 45 rfl) (fun H locs hP hS => ?_)
      have hP : fH Γ σ4 H := by rw [eσ4]; exact hP
      refine lv_aload_n C.1 C.2.1 (kd kX8_addsBerth_0 46 rfl) rfl (lv_at hl 0 rfl) ?_
      refine fl_get (j := 0) (v := .ref (Γ.1 165)) C hP rfl (Nat.le_of_ble_eq_true rfl) rfl inX8 (Nat.le_of_ble_eq_true rfl) tw_862 rfl (kd kX8_addsBerth_0 47 rfl) ?_
      refine lv_bipush (v := (115 : Int32)) C.1 C.2.1 (kd kX8_addsBerth_0 48 rfl) (by decide) ?_
      refine lv_dup2_11 C.1 C.2.1 (kd kX8_addsBerth_0 49 rfl) rfl rfl ?_
      obtain ⟨hq, hf⟩ := fb_some hf
      refine fl_iald C hP rfl hq (kd kX8_addsBerth_0 50 rfl) ?_
      refine lv_iconst (v := (1 : Int32)) C.1 C.2.1 (kd kX8_addsBerth_0 51 rfl) (by decide) ?_
      refine lv_iadd C.1 C.2.1 (kd kX8_addsBerth_0 52 rfl) ?_
      obtain ⟨hq, hf⟩ := fb_some hf
      obtain ⟨σ5, eσ5, hf⟩ := fL_some hf
      refine fl_iast C hP hS rfl hq (kd kX8_addsBerth_0 53 rfl) (fun H locs hP hS => ?_)
      have hP : fH Γ σ5 H := by rw [eσ5]; exact hP
      refine lv_aload_n C.1 C.2.1 (kd kX8_addsBerth_0 54 rfl) rfl (lv_at hl 0 rfl) ?_
      refine fl_get (j := 0) (v := .ref (Γ.1 165)) C hP rfl (Nat.le_of_ble_eq_true rfl) rfl inX8 (Nat.le_of_ble_eq_true rfl) tw_862 rfl (kd kX8_addsBerth_0 55 rfl) ?_
      refine lv_bipush (v := (115 : Int32)) C.1 C.2.1 (kd kX8_addsBerth_0 56 rfl) (by decide) ?_
      obtain ⟨hq, hf⟩ := fb_some hf
      refine fl_iald C hP rfl hq (kd kX8_addsBerth_0 57 rfl) ?_
      refine lv_iconst (v := (1 : Int32)) C.1 C.2.1 (kd kX8_addsBerth_0 58 rfl) (by decide) ?_
      refine lv_isub C.1 C.2.1 (kd kX8_addsBerth_0 59 rfl) ?_
      exact fl_iret C hP hS hf (kd kX8_addsBerth_1 0 rfl)
    have hf := fif_pos q hf
    refine lv_sipush (v := (-10003 : Int32)) C.1 C.2.1 (kd kX8_addsBerth_0 18 rfl) (by decide) ?_
    exact fl_iret C hP hS hf (kd kX8_addsBerth_0 19 rfl)
  have hf := fif_pos q hf
  refine lv_sipush (v := (-10002 : Int32)) C.1 C.2.1 (kd kX8_addsBerth_0 10 rfl) (by decide) ?_
  exact fl_iret C hP hS hf (kd kX8_addsBerth_0 11 rfl)
def f_X8_addsCrossing (x1 : Int32) (x2 : Int32) (x3 : Int32) (x4 : Int32) (σ : fS) : Option (Int32 × fS) := fcall (f_X8_isShip x1 σ) (fun r1_ σ1 => (if r1_ = 0 then some ((-10001 : Int32), σ1) else fcall (f_X8_isBerth x2 σ1) (fun r2_ σ2 => (if r2_ = 0 then some ((-10001 : Int32), σ2) else fcall (f_X8_in x3 (0 : Int32) (2799 : Int32) σ2) (fun r3_ σ3 => (if r3_ = 0 then some ((-10002 : Int32), σ3) else fcall (f_X8_in x4 (x3 + (1 : Int32)) (x3 + (300 : Int32)) σ3) (fun r4_ σ4 => (if r4_ = 0 then some ((-10002 : Int32), σ4) else (if x4 ≤ (2800 : Int32) then fb (122 : Int32) 277 ((if (σ4 165 (122 : Int32).toNatClampNeg) = (12 : Int32) then some ((-10003 : Int32), σ4) else fb (122 : Int32) 277 (fb ((123 : Int32) + ((4 : Int32) * (σ4 165 (122 : Int32).toNatClampNeg))) 277 (fL (fu σ4 165 ((123 : Int32) + ((4 : Int32) * (σ4 165 (122 : Int32).toNatClampNeg))).toNatClampNeg x1) (fun σ5 => fb (((123 : Int32) + ((4 : Int32) * (σ4 165 (122 : Int32).toNatClampNeg))) + (1 : Int32)) 277 (fL (fu σ5 165 (((123 : Int32) + ((4 : Int32) * (σ4 165 (122 : Int32).toNatClampNeg))) + (1 : Int32)).toNatClampNeg x2) (fun σ6 => fb (((123 : Int32) + ((4 : Int32) * (σ4 165 (122 : Int32).toNatClampNeg))) + (2 : Int32)) 277 (fL (fu σ6 165 (((123 : Int32) + ((4 : Int32) * (σ4 165 (122 : Int32).toNatClampNeg))) + (2 : Int32)).toNatClampNeg x3) (fun σ7 => fb (((123 : Int32) + ((4 : Int32) * (σ4 165 (122 : Int32).toNatClampNeg))) + (3 : Int32)) 277 (fL (fu σ7 165 (((123 : Int32) + ((4 : Int32) * (σ4 165 (122 : Int32).toNatClampNeg))) + (3 : Int32)).toNatClampNeg x4) (fun σ8 => fb (122 : Int32) 277 (fb (122 : Int32) 277 (fL (fu σ8 165 (122 : Int32).toNatClampNeg ((σ8 165 (122 : Int32).toNatClampNeg) + (1 : Int32))) (fun σ9 => fb (122 : Int32) 277 (some (((σ9 165 (122 : Int32).toNatClampNeg) - (1 : Int32)), σ9)))))))))))))))) else some ((-10002 : Int32), σ4))))))))))
set_option maxRecDepth 100000 in
set_option maxHeartbeats 4000000 in
theorem m_X8_addsCrossing {Γ : fGm} (hI : fI Γ) (l : Launch) {x1 : Int32} {x2 : Int32} {x3 : Int32} {x4 : Int32} {σ : fS} {r : Int32} {σ' : fS} (hf : f_X8_addsCrossing x1 x2 x3 x4 σ = some (r, σ')) : Met l yX8_addsCrossing (.code yX8_addsCrossing cX8_addsCrossing 6 (some .int) :: lw_g) ({ frames := 2, cells := 0, slots := 0, locals := 43 } : Room) (fPre Γ [.ref (Γ.1 164), .int x1, .int x2, .int x3, .int x4] σ) (fQi Γ r σ') 0 0 (fAd Γ) := by
  refine fl_enter (own := RX8) hI (by decide +kernel) rfl (Nat.le_of_ble_eq_true rfl) ?_
  intro p e s m args below meth c ls C hl hP hS
  have hl : lv_has ls 6 [(0, .ref (Γ.1 164)), (1, .int x1), (2, .int x2), (3, .int x3), (4, .int x4)] := hl
  obtain ⟨H, hH⟩ : ∃ H, H = s.heap := ⟨_, rfl⟩
  obtain ⟨locs, hL⟩ : ∃ L : List Loc, L = [] := ⟨_, rfl⟩
  have hP : fH Γ σ H := by rw [hH]; exact hP
  have hS : va_S (fAd Γ) s.heap H locs := by rw [hH, hL]; exact hS
  suffices hw : W p l e ({ frames := 2, cells := 0, slots := 0, locals := 43 } : Room) s m args below meth c H locs 0 0 (MQ below (fQi Γ r σ') args s 0 0 (fAd Γ)) (F0 m 0 ls []) by rw [hH, hL] at hw; exact hw
  unfold f_X8_addsCrossing at hf
  refine lv_aload_n C.1 C.2.1 (kd kX8_addsCrossing_0 0 rfl) rfl (lv_at hl 0 rfl) ?_
  refine lv_iload_n C.1 C.2.1 (kd kX8_addsCrossing_0 1 rfl) rfl (lv_at hl 1 rfl) ?_
  obtain ⟨r1_, σ1, hσ1, hf⟩ := fcall_some hf
  refine fl_i hS (fl_runV (As := [.int x1]) (rest := []) C hP rfl (Nat.le_of_ble_eq_true rfl) rfl (m_X8_isShip C.2.2.2.2.2.2.2.2 l  hσ1) (fgV tw_994 tw_996 tw_25 tw_75 tw_997) hd_X8_isShip ⟨rfl, rfl, Nat.le_of_ble_eq_true rfl, Nat.le_of_ble_eq_true rfl⟩ rfl hl.1 rfl (Nat.le_of_ble_eq_true rfl) (kd kX8_addsCrossing_0 2 rfl)) (fun H locs hP hS => ?_)
  refine lv_if_eq (tgt := 16) C.1 C.2.1 (kd kX8_addsCrossing_0 3 rfl) (by decide) (fun q => ?_) (fun q => ?_)
  · have hf := fif_pos q hf
    refine lv_sipush (v := (-10001 : Int32)) C.1 C.2.1 (kd kX8_addsCrossing_0 8 rfl) (by decide) ?_
    exact fl_iret C hP hS hf (kd kX8_addsCrossing_0 9 rfl)
  have hf := fif_neg q hf
  refine lv_aload_n C.1 C.2.1 (kd kX8_addsCrossing_0 4 rfl) rfl (lv_at hl 0 rfl) ?_
  refine lv_iload_n C.1 C.2.1 (kd kX8_addsCrossing_0 5 rfl) rfl (lv_at hl 2 rfl) ?_
  obtain ⟨r2_, σ2, hσ2, hf⟩ := fcall_some hf
  refine fl_i hS (fl_runV (As := [.int x2]) (rest := []) C hP rfl (Nat.le_of_ble_eq_true rfl) rfl (m_X8_isBerth C.2.2.2.2.2.2.2.2 l  hσ2) (fgV tw_998 tw_1000 tw_26 tw_75 tw_1001) hd_X8_isBerth ⟨rfl, rfl, Nat.le_of_ble_eq_true rfl, Nat.le_of_ble_eq_true rfl⟩ rfl hl.1 rfl (Nat.le_of_ble_eq_true rfl) (kd kX8_addsCrossing_0 6 rfl)) (fun H locs hP hS => ?_)
  refine lv_if_ne (tgt := 20) C.1 C.2.1 (kd kX8_addsCrossing_0 7 rfl) (by decide) (fun q => ?_) (fun q => ?_)
  · have hf := fif_neg q hf
    refine lv_iload_n C.1 C.2.1 (kd kX8_addsCrossing_0 10 rfl) rfl (lv_at hl 3 rfl) ?_
    refine lv_iconst (v := (0 : Int32)) C.1 C.2.1 (kd kX8_addsCrossing_0 11 rfl) (by decide) ?_
    refine lv_sipush (v := (2799 : Int32)) C.1 C.2.1 (kd kX8_addsCrossing_0 12 rfl) (by decide) ?_
    obtain ⟨r3_, σ3, hσ3, hf⟩ := fcall_some hf
    refine fl_i hS (fl_runS (As := [.int x3, .int (0 : Int32), .int (2799 : Int32)]) (rest := []) C hP (m_X8_in C.2.2.2.2.2.2.2.2 l  hσ3) (fgS tw_968 tw_969 tw_75 tw_970) hs_X8_in ⟨rfl, rfl, Nat.le_of_ble_eq_true rfl, Nat.le_of_ble_eq_true rfl⟩ rfl hl.1 rfl (Nat.le_of_ble_eq_true rfl) (kd kX8_addsCrossing_0 13 rfl)) (fun H locs hP hS => ?_)
    refine lv_if_eq (tgt := 55) C.1 C.2.1 (kd kX8_addsCrossing_0 14 rfl) (by decide) (fun q => ?_) (fun q => ?_)
    · have hf := fif_pos q hf
      refine lv_sipush (v := (-10002 : Int32)) C.1 C.2.1 (kd kX8_addsCrossing_0 27 rfl) (by decide) ?_
      exact fl_iret C hP hS hf (kd kX8_addsCrossing_0 28 rfl)
    have hf := fif_neg q hf
    refine lv_iload C.1 C.2.1 (kd kX8_addsCrossing_0 15 rfl) (lv_at hl 4 rfl) ?_
    refine lv_iload_n C.1 C.2.1 (kd kX8_addsCrossing_0 16 rfl) rfl (lv_at hl 3 rfl) ?_
    refine lv_iconst (v := (1 : Int32)) C.1 C.2.1 (kd kX8_addsCrossing_0 17 rfl) (by decide) ?_
    refine lv_iadd C.1 C.2.1 (kd kX8_addsCrossing_0 18 rfl) ?_
    refine lv_iload_n C.1 C.2.1 (kd kX8_addsCrossing_0 19 rfl) rfl (lv_at hl 3 rfl) ?_
    refine lv_sipush (v := (300 : Int32)) C.1 C.2.1 (kd kX8_addsCrossing_0 20 rfl) (by decide) ?_
    refine lv_iadd C.1 C.2.1 (kd kX8_addsCrossing_0 21 rfl) ?_
    obtain ⟨r4_, σ4, hσ4, hf⟩ := fcall_some hf
    refine fl_i hS (fl_runS (As := [.int x4, .int (x3 + (1 : Int32)), .int (x3 + (300 : Int32))]) (rest := []) C hP (m_X8_in C.2.2.2.2.2.2.2.2 l  hσ4) (fgS tw_968 tw_969 tw_75 tw_970) hs_X8_in ⟨rfl, rfl, Nat.le_of_ble_eq_true rfl, Nat.le_of_ble_eq_true rfl⟩ rfl hl.1 rfl (Nat.le_of_ble_eq_true rfl) (kd kX8_addsCrossing_0 22 rfl)) (fun H locs hP hS => ?_)
    refine lv_if_eq (tgt := 55) C.1 C.2.1 (kd kX8_addsCrossing_0 23 rfl) (by decide) (fun q => ?_) (fun q => ?_)
    · have hf := fif_pos q hf
      refine lv_sipush (v := (-10002 : Int32)) C.1 C.2.1 (kd kX8_addsCrossing_0 27 rfl) (by decide) ?_
      exact fl_iret C hP hS hf (kd kX8_addsCrossing_0 28 rfl)
    have hf := fif_neg q hf
    refine lv_iload C.1 C.2.1 (kd kX8_addsCrossing_0 24 rfl) (lv_at hl 4 rfl) ?_
    refine lv_sipush (v := (2800 : Int32)) C.1 C.2.1 (kd kX8_addsCrossing_0 25 rfl) (by decide) ?_
    refine lv_icmp_le (tgt := 59) C.1 C.2.1 (kd kX8_addsCrossing_0 26 rfl) (by decide) (fun q => ?_) (fun q => ?_)
    · have hf := fif_pos q hf
      refine lv_aload_n C.1 C.2.1 (kd kX8_addsCrossing_0 29 rfl) rfl (lv_at hl 0 rfl) ?_
      refine fl_get (j := 0) (v := .ref (Γ.1 165)) C hP rfl (Nat.le_of_ble_eq_true rfl) rfl inX8 (Nat.le_of_ble_eq_true rfl) tw_862 rfl (kd kX8_addsCrossing_0 30 rfl) ?_
      refine lv_bipush (v := (122 : Int32)) C.1 C.2.1 (kd kX8_addsCrossing_0 31 rfl) (by decide) ?_
      obtain ⟨hq, hf⟩ := fb_some hf
      refine fl_iald C hP rfl hq (kd kX8_addsCrossing_0 32 rfl) ?_
      refine lv_bipush (v := (12 : Int32)) C.1 C.2.1 (kd kX8_addsCrossing_0 33 rfl) (by decide) ?_
      refine lv_icmp_ne (tgt := 75) C.1 C.2.1 (kd kX8_addsCrossing_0 34 rfl) (by decide) (fun q => ?_) (fun q => ?_)
      · have hf := fif_neg q hf
        refine lv_bipush (v := (123 : Int32)) C.1 C.2.1 (kd kX8_addsCrossing_0 37 rfl) (by decide) ?_
        refine lv_iconst (v := (4 : Int32)) C.1 C.2.1 (kd kX8_addsCrossing_0 38 rfl) (by decide) ?_
        refine lv_aload_n C.1 C.2.1 (kd kX8_addsCrossing_0 39 rfl) rfl (lv_at hl 0 rfl) ?_
        refine fl_get (j := 0) (v := .ref (Γ.1 165)) C hP rfl (Nat.le_of_ble_eq_true rfl) rfl inX8 (Nat.le_of_ble_eq_true rfl) tw_862 rfl (kd kX8_addsCrossing_0 40 rfl) ?_
        refine lv_bipush (v := (122 : Int32)) C.1 C.2.1 (kd kX8_addsCrossing_0 41 rfl) (by decide) ?_
        obtain ⟨hq, hf⟩ := fb_some hf
        refine fl_iald C hP rfl hq (kd kX8_addsCrossing_0 42 rfl) ?_
        refine lv_imul C.1 C.2.1 (kd kX8_addsCrossing_0 43 rfl) ?_
        refine lv_iadd C.1 C.2.1 (kd kX8_addsCrossing_0 44 rfl) ?_
        refine lv_istore (lv' := [(5, .int ((123 : Int32) + ((4 : Int32) * (σ4 165 (122 : Int32).toNatClampNeg)))), (0, .ref (Γ.1 164)), (1, .int x1), (2, .int x2), (3, .int x3), (4, .int x4)]) C.1 C.2.1 (kd kX8_addsCrossing_0 45 rfl) hl (Nat.le_of_ble_eq_true rfl) rfl (fun ls hl => ?_)
        refine lv_aload_n C.1 C.2.1 (kd kX8_addsCrossing_0 46 rfl) rfl (lv_at hl 1 rfl) ?_
        refine fl_get (j := 0) (v := .ref (Γ.1 165)) C hP rfl (Nat.le_of_ble_eq_true rfl) rfl inX8 (Nat.le_of_ble_eq_true rfl) tw_862 rfl (kd kX8_addsCrossing_0 47 rfl) ?_
        refine lv_iload C.1 C.2.1 (kd kX8_addsCrossing_0 48 rfl) (lv_at hl 0 rfl) ?_
        refine lv_iload_n C.1 C.2.1 (kd kX8_addsCrossing_0 49 rfl) rfl (lv_at hl 2 rfl) ?_
        obtain ⟨hq, hf⟩ := fb_some hf
        obtain ⟨σ5, eσ5, hf⟩ := fL_some hf
        refine fl_iast C hP hS rfl hq (kd kX8_addsCrossing_0 50 rfl) (fun H locs hP hS => ?_)
        have hP : fH Γ σ5 H := by rw [eσ5]; exact hP
        refine lv_aload_n C.1 C.2.1 (kd kX8_addsCrossing_0 51 rfl) rfl (lv_at hl 1 rfl) ?_
        refine fl_get (j := 0) (v := .ref (Γ.1 165)) C hP rfl (Nat.le_of_ble_eq_true rfl) rfl inX8 (Nat.le_of_ble_eq_true rfl) tw_862 rfl (kd kX8_addsCrossing_0 52 rfl) ?_
        refine lv_iload C.1 C.2.1 (kd kX8_addsCrossing_0 53 rfl) (lv_at hl 0 rfl) ?_
        refine lv_iconst (v := (1 : Int32)) C.1 C.2.1 (kd kX8_addsCrossing_0 54 rfl) (by decide) ?_
        refine lv_iadd C.1 C.2.1 (kd kX8_addsCrossing_0 55 rfl) ?_
        refine lv_iload_n C.1 C.2.1 (kd kX8_addsCrossing_0 56 rfl) rfl (lv_at hl 3 rfl) ?_
        obtain ⟨hq, hf⟩ := fb_some hf
        obtain ⟨σ6, eσ6, hf⟩ := fL_some hf
        refine fl_iast C hP hS rfl hq (kd kX8_addsCrossing_0 57 rfl) (fun H locs hP hS => ?_)
        have hP : fH Γ σ6 H := by rw [eσ6]; exact hP
        refine lv_aload_n C.1 C.2.1 (kd kX8_addsCrossing_0 58 rfl) rfl (lv_at hl 1 rfl) ?_
        refine fl_get (j := 0) (v := .ref (Γ.1 165)) C hP rfl (Nat.le_of_ble_eq_true rfl) rfl inX8 (Nat.le_of_ble_eq_true rfl) tw_862 rfl (kd kX8_addsCrossing_0 59 rfl) ?_
        refine lv_iload C.1 C.2.1 (kd kX8_addsCrossing_1 0 rfl) (lv_at hl 0 rfl) ?_
        refine lv_iconst (v := (2 : Int32)) C.1 C.2.1 (kd kX8_addsCrossing_1 1 rfl) (by decide) ?_
        refine lv_iadd C.1 C.2.1 (kd kX8_addsCrossing_1 2 rfl) ?_
        refine lv_iload_n C.1 C.2.1 (kd kX8_addsCrossing_1 3 rfl) rfl (lv_at hl 4 rfl) ?_
        obtain ⟨hq, hf⟩ := fb_some hf
        obtain ⟨σ7, eσ7, hf⟩ := fL_some hf
        refine fl_iast C hP hS rfl hq (kd kX8_addsCrossing_1 4 rfl) (fun H locs hP hS => ?_)
        have hP : fH Γ σ7 H := by rw [eσ7]; exact hP
        refine lv_aload_n C.1 C.2.1 (kd kX8_addsCrossing_1 5 rfl) rfl (lv_at hl 1 rfl) ?_
        refine fl_get (j := 0) (v := .ref (Γ.1 165)) C hP rfl (Nat.le_of_ble_eq_true rfl) rfl inX8 (Nat.le_of_ble_eq_true rfl) tw_862 rfl (kd kX8_addsCrossing_1 6 rfl) ?_
        refine lv_iload C.1 C.2.1 (kd kX8_addsCrossing_1 7 rfl) (lv_at hl 0 rfl) ?_
        refine lv_iconst (v := (3 : Int32)) C.1 C.2.1 (kd kX8_addsCrossing_1 8 rfl) (by decide) ?_
        refine lv_iadd C.1 C.2.1 (kd kX8_addsCrossing_1 9 rfl) ?_
        refine lv_iload C.1 C.2.1 (kd kX8_addsCrossing_1 10 rfl) (lv_at hl 5 rfl) ?_
        obtain ⟨hq, hf⟩ := fb_some hf
        obtain ⟨σ8, eσ8, hf⟩ := fL_some hf
        refine fl_iast C hP hS rfl hq (kd kX8_addsCrossing_1 11 rfl) (fun H locs hP hS => ?_)
        have hP : fH Γ σ8 H := by rw [eσ8]; exact hP
        refine lv_aload_n C.1 C.2.1 (kd kX8_addsCrossing_1 12 rfl) rfl (lv_at hl 1 rfl) ?_
        refine fl_get (j := 0) (v := .ref (Γ.1 165)) C hP rfl (Nat.le_of_ble_eq_true rfl) rfl inX8 (Nat.le_of_ble_eq_true rfl) tw_862 rfl (kd kX8_addsCrossing_1 13 rfl) ?_
        refine lv_bipush (v := (122 : Int32)) C.1 C.2.1 (kd kX8_addsCrossing_1 14 rfl) (by decide) ?_
        refine lv_dup2_11 C.1 C.2.1 (kd kX8_addsCrossing_1 15 rfl) rfl rfl ?_
        obtain ⟨hq, hf⟩ := fb_some hf
        refine fl_iald C hP rfl hq (kd kX8_addsCrossing_1 16 rfl) ?_
        refine lv_iconst (v := (1 : Int32)) C.1 C.2.1 (kd kX8_addsCrossing_1 17 rfl) (by decide) ?_
        refine lv_iadd C.1 C.2.1 (kd kX8_addsCrossing_1 18 rfl) ?_
        obtain ⟨hq, hf⟩ := fb_some hf
        obtain ⟨σ9, eσ9, hf⟩ := fL_some hf
        refine fl_iast C hP hS rfl hq (kd kX8_addsCrossing_1 19 rfl) (fun H locs hP hS => ?_)
        have hP : fH Γ σ9 H := by rw [eσ9]; exact hP
        refine lv_aload_n C.1 C.2.1 (kd kX8_addsCrossing_1 20 rfl) rfl (lv_at hl 1 rfl) ?_
        refine fl_get (j := 0) (v := .ref (Γ.1 165)) C hP rfl (Nat.le_of_ble_eq_true rfl) rfl inX8 (Nat.le_of_ble_eq_true rfl) tw_862 rfl (kd kX8_addsCrossing_1 21 rfl) ?_
        refine lv_bipush (v := (122 : Int32)) C.1 C.2.1 (kd kX8_addsCrossing_1 22 rfl) (by decide) ?_
        obtain ⟨hq, hf⟩ := fb_some hf
        refine fl_iald C hP rfl hq (kd kX8_addsCrossing_1 23 rfl) ?_
        refine lv_iconst (v := (1 : Int32)) C.1 C.2.1 (kd kX8_addsCrossing_1 24 rfl) (by decide) ?_
        refine lv_isub C.1 C.2.1 (kd kX8_addsCrossing_1 25 rfl) ?_
        exact fl_iret C hP hS hf (kd kX8_addsCrossing_1 26 rfl)
      have hf := fif_pos q hf
      refine lv_sipush (v := (-10003 : Int32)) C.1 C.2.1 (kd kX8_addsCrossing_0 35 rfl) (by decide) ?_
      exact fl_iret C hP hS hf (kd kX8_addsCrossing_0 36 rfl)
    have hf := fif_neg q hf
    refine lv_sipush (v := (-10002 : Int32)) C.1 C.2.1 (kd kX8_addsCrossing_0 27 rfl) (by decide) ?_
    exact fl_iret C hP hS hf (kd kX8_addsCrossing_0 28 rfl)
  have hf := fif_pos q hf
  refine lv_sipush (v := (-10001 : Int32)) C.1 C.2.1 (kd kX8_addsCrossing_0 8 rfl) (by decide) ?_
  exact fl_iret C hP hS hf (kd kX8_addsCrossing_0 9 rfl)
def f_X8_addsVehicle (x1 : Int32) (x2 : Int32) (x3 : Int32) (σ : fS) : Option (Int32 × fS) := fcall (f_X8_isCrossing x1 σ) (fun r1_ σ1 => (if r1_ = 0 then some ((-10001 : Int32), σ1) else fcall (f_X8_in x2 (3 : Int32) (30 : Int32) σ1) (fun r2_ σ2 => (if r2_ = 0 then some ((-10002 : Int32), σ2) else fcall (f_X8_in x3 (0 : Int32) (5 : Int32) σ2) (fun r3_ σ3 => (if r3_ = 0 then some ((-10002 : Int32), σ3) else fb (171 : Int32) 277 ((if (σ3 165 (171 : Int32).toNatClampNeg) = (24 : Int32) then some ((-10003 : Int32), σ3) else fb (171 : Int32) 277 (fb ((172 : Int32) + ((3 : Int32) * (σ3 165 (171 : Int32).toNatClampNeg))) 277 (fL (fu σ3 165 ((172 : Int32) + ((3 : Int32) * (σ3 165 (171 : Int32).toNatClampNeg))).toNatClampNeg x1) (fun σ4 => fb (((172 : Int32) + ((3 : Int32) * (σ3 165 (171 : Int32).toNatClampNeg))) + (1 : Int32)) 277 (fL (fu σ4 165 (((172 : Int32) + ((3 : Int32) * (σ3 165 (171 : Int32).toNatClampNeg))) + (1 : Int32)).toNatClampNeg x2) (fun σ5 => fb (((172 : Int32) + ((3 : Int32) * (σ3 165 (171 : Int32).toNatClampNeg))) + (2 : Int32)) 277 (fL (fu σ5 165 (((172 : Int32) + ((3 : Int32) * (σ3 165 (171 : Int32).toNatClampNeg))) + (2 : Int32)).toNatClampNeg x3) (fun σ6 => fb (171 : Int32) 277 (fb (171 : Int32) 277 (fL (fu σ6 165 (171 : Int32).toNatClampNeg ((σ6 165 (171 : Int32).toNatClampNeg) + (1 : Int32))) (fun σ7 => fb (171 : Int32) 277 (some (((σ7 165 (171 : Int32).toNatClampNeg) - (1 : Int32)), σ7))))))))))))))))))))
set_option maxRecDepth 100000 in
set_option maxHeartbeats 4000000 in
theorem m_X8_addsVehicle {Γ : fGm} (hI : fI Γ) (l : Launch) {x1 : Int32} {x2 : Int32} {x3 : Int32} {σ : fS} {r : Int32} {σ' : fS} (hf : f_X8_addsVehicle x1 x2 x3 σ = some (r, σ')) : Met l yX8_addsVehicle (.code yX8_addsVehicle cX8_addsVehicle 5 (some .int) :: lw_g) ({ frames := 2, cells := 0, slots := 0, locals := 43 } : Room) (fPre Γ [.ref (Γ.1 164), .int x1, .int x2, .int x3] σ) (fQi Γ r σ') 0 0 (fAd Γ) := by
  refine fl_enter (own := RX8) hI (by decide +kernel) rfl (Nat.le_of_ble_eq_true rfl) ?_
  intro p e s m args below meth c ls C hl hP hS
  have hl : lv_has ls 5 [(0, .ref (Γ.1 164)), (1, .int x1), (2, .int x2), (3, .int x3)] := hl
  obtain ⟨H, hH⟩ : ∃ H, H = s.heap := ⟨_, rfl⟩
  obtain ⟨locs, hL⟩ : ∃ L : List Loc, L = [] := ⟨_, rfl⟩
  have hP : fH Γ σ H := by rw [hH]; exact hP
  have hS : va_S (fAd Γ) s.heap H locs := by rw [hH, hL]; exact hS
  suffices hw : W p l e ({ frames := 2, cells := 0, slots := 0, locals := 43 } : Room) s m args below meth c H locs 0 0 (MQ below (fQi Γ r σ') args s 0 0 (fAd Γ)) (F0 m 0 ls []) by rw [hH, hL] at hw; exact hw
  unfold f_X8_addsVehicle at hf
  refine lv_aload_n C.1 C.2.1 (kd kX8_addsVehicle_0 0 rfl) rfl (lv_at hl 0 rfl) ?_
  refine lv_iload_n C.1 C.2.1 (kd kX8_addsVehicle_0 1 rfl) rfl (lv_at hl 1 rfl) ?_
  obtain ⟨r1_, σ1, hσ1, hf⟩ := fcall_some hf
  refine fl_i hS (fl_runV (As := [.int x1]) (rest := []) C hP rfl (Nat.le_of_ble_eq_true rfl) rfl (m_X8_isCrossing C.2.2.2.2.2.2.2.2 l  hσ1) (fgV tw_1010 tw_1012 tw_28 tw_75 tw_1013) hd_X8_isCrossing ⟨rfl, rfl, Nat.le_of_ble_eq_true rfl, Nat.le_of_ble_eq_true rfl⟩ rfl hl.1 rfl (Nat.le_of_ble_eq_true rfl) (kd kX8_addsVehicle_0 2 rfl)) (fun H locs hP hS => ?_)
  refine lv_if_ne (tgt := 12) C.1 C.2.1 (kd kX8_addsVehicle_0 3 rfl) (by decide) (fun q => ?_) (fun q => ?_)
  · have hf := fif_neg q hf
    refine lv_iload_n C.1 C.2.1 (kd kX8_addsVehicle_0 6 rfl) rfl (lv_at hl 2 rfl) ?_
    refine lv_iconst (v := (3 : Int32)) C.1 C.2.1 (kd kX8_addsVehicle_0 7 rfl) (by decide) ?_
    refine lv_bipush (v := (30 : Int32)) C.1 C.2.1 (kd kX8_addsVehicle_0 8 rfl) (by decide) ?_
    obtain ⟨r2_, σ2, hσ2, hf⟩ := fcall_some hf
    refine fl_i hS (fl_runS (As := [.int x2, .int (3 : Int32), .int (30 : Int32)]) (rest := []) C hP (m_X8_in C.2.2.2.2.2.2.2.2 l  hσ2) (fgS tw_968 tw_969 tw_75 tw_970) hs_X8_in ⟨rfl, rfl, Nat.le_of_ble_eq_true rfl, Nat.le_of_ble_eq_true rfl⟩ rfl hl.1 rfl (Nat.le_of_ble_eq_true rfl) (kd kX8_addsVehicle_0 9 rfl)) (fun H locs hP hS => ?_)
    refine lv_if_eq (tgt := 31) C.1 C.2.1 (kd kX8_addsVehicle_0 10 rfl) (by decide) (fun q => ?_) (fun q => ?_)
    · have hf := fif_pos q hf
      refine lv_sipush (v := (-10002 : Int32)) C.1 C.2.1 (kd kX8_addsVehicle_0 16 rfl) (by decide) ?_
      exact fl_iret C hP hS hf (kd kX8_addsVehicle_0 17 rfl)
    have hf := fif_neg q hf
    refine lv_iload_n C.1 C.2.1 (kd kX8_addsVehicle_0 11 rfl) rfl (lv_at hl 3 rfl) ?_
    refine lv_iconst (v := (0 : Int32)) C.1 C.2.1 (kd kX8_addsVehicle_0 12 rfl) (by decide) ?_
    refine lv_iconst (v := (5 : Int32)) C.1 C.2.1 (kd kX8_addsVehicle_0 13 rfl) (by decide) ?_
    obtain ⟨r3_, σ3, hσ3, hf⟩ := fcall_some hf
    refine fl_i hS (fl_runS (As := [.int x3, .int (0 : Int32), .int (5 : Int32)]) (rest := []) C hP (m_X8_in C.2.2.2.2.2.2.2.2 l  hσ3) (fgS tw_968 tw_969 tw_75 tw_970) hs_X8_in ⟨rfl, rfl, Nat.le_of_ble_eq_true rfl, Nat.le_of_ble_eq_true rfl⟩ rfl hl.1 rfl (Nat.le_of_ble_eq_true rfl) (kd kX8_addsVehicle_0 14 rfl)) (fun H locs hP hS => ?_)
    refine lv_if_ne (tgt := 35) C.1 C.2.1 (kd kX8_addsVehicle_0 15 rfl) (by decide) (fun q => ?_) (fun q => ?_)
    · have hf := fif_neg q hf
      refine lv_aload_n C.1 C.2.1 (kd kX8_addsVehicle_0 18 rfl) rfl (lv_at hl 0 rfl) ?_
      refine fl_get (j := 0) (v := .ref (Γ.1 165)) C hP rfl (Nat.le_of_ble_eq_true rfl) rfl inX8 (Nat.le_of_ble_eq_true rfl) tw_862 rfl (kd kX8_addsVehicle_0 19 rfl) ?_
      refine lv_sipush (v := (171 : Int32)) C.1 C.2.1 (kd kX8_addsVehicle_0 20 rfl) (by decide) ?_
      obtain ⟨hq, hf⟩ := fb_some hf
      refine fl_iald C hP rfl hq (kd kX8_addsVehicle_0 21 rfl) ?_
      refine lv_bipush (v := (24 : Int32)) C.1 C.2.1 (kd kX8_addsVehicle_0 22 rfl) (by decide) ?_
      refine lv_icmp_ne (tgt := 52) C.1 C.2.1 (kd kX8_addsVehicle_0 23 rfl) (by decide) (fun q => ?_) (fun q => ?_)
      · have hf := fif_neg q hf
        refine lv_sipush (v := (172 : Int32)) C.1 C.2.1 (kd kX8_addsVehicle_0 26 rfl) (by decide) ?_
        refine lv_iconst (v := (3 : Int32)) C.1 C.2.1 (kd kX8_addsVehicle_0 27 rfl) (by decide) ?_
        refine lv_aload_n C.1 C.2.1 (kd kX8_addsVehicle_0 28 rfl) rfl (lv_at hl 0 rfl) ?_
        refine fl_get (j := 0) (v := .ref (Γ.1 165)) C hP rfl (Nat.le_of_ble_eq_true rfl) rfl inX8 (Nat.le_of_ble_eq_true rfl) tw_862 rfl (kd kX8_addsVehicle_0 29 rfl) ?_
        refine lv_sipush (v := (171 : Int32)) C.1 C.2.1 (kd kX8_addsVehicle_0 30 rfl) (by decide) ?_
        obtain ⟨hq, hf⟩ := fb_some hf
        refine fl_iald C hP rfl hq (kd kX8_addsVehicle_0 31 rfl) ?_
        refine lv_imul C.1 C.2.1 (kd kX8_addsVehicle_0 32 rfl) ?_
        refine lv_iadd C.1 C.2.1 (kd kX8_addsVehicle_0 33 rfl) ?_
        refine lv_istore (lv' := [(4, .int ((172 : Int32) + ((3 : Int32) * (σ3 165 (171 : Int32).toNatClampNeg)))), (0, .ref (Γ.1 164)), (1, .int x1), (2, .int x2), (3, .int x3)]) C.1 C.2.1 (kd kX8_addsVehicle_0 34 rfl) hl (Nat.le_of_ble_eq_true rfl) rfl (fun ls hl => ?_)
        refine lv_aload_n C.1 C.2.1 (kd kX8_addsVehicle_0 35 rfl) rfl (lv_at hl 1 rfl) ?_
        refine fl_get (j := 0) (v := .ref (Γ.1 165)) C hP rfl (Nat.le_of_ble_eq_true rfl) rfl inX8 (Nat.le_of_ble_eq_true rfl) tw_862 rfl (kd kX8_addsVehicle_0 36 rfl) ?_
        refine lv_iload C.1 C.2.1 (kd kX8_addsVehicle_0 37 rfl) (lv_at hl 0 rfl) ?_
        refine lv_iload_n C.1 C.2.1 (kd kX8_addsVehicle_0 38 rfl) rfl (lv_at hl 2 rfl) ?_
        obtain ⟨hq, hf⟩ := fb_some hf
        obtain ⟨σ4, eσ4, hf⟩ := fL_some hf
        refine fl_iast C hP hS rfl hq (kd kX8_addsVehicle_0 39 rfl) (fun H locs hP hS => ?_)
        have hP : fH Γ σ4 H := by rw [eσ4]; exact hP
        refine lv_aload_n C.1 C.2.1 (kd kX8_addsVehicle_0 40 rfl) rfl (lv_at hl 1 rfl) ?_
        refine fl_get (j := 0) (v := .ref (Γ.1 165)) C hP rfl (Nat.le_of_ble_eq_true rfl) rfl inX8 (Nat.le_of_ble_eq_true rfl) tw_862 rfl (kd kX8_addsVehicle_0 41 rfl) ?_
        refine lv_iload C.1 C.2.1 (kd kX8_addsVehicle_0 42 rfl) (lv_at hl 0 rfl) ?_
        refine lv_iconst (v := (1 : Int32)) C.1 C.2.1 (kd kX8_addsVehicle_0 43 rfl) (by decide) ?_
        refine lv_iadd C.1 C.2.1 (kd kX8_addsVehicle_0 44 rfl) ?_
        refine lv_iload_n C.1 C.2.1 (kd kX8_addsVehicle_0 45 rfl) rfl (lv_at hl 3 rfl) ?_
        obtain ⟨hq, hf⟩ := fb_some hf
        obtain ⟨σ5, eσ5, hf⟩ := fL_some hf
        refine fl_iast C hP hS rfl hq (kd kX8_addsVehicle_0 46 rfl) (fun H locs hP hS => ?_)
        have hP : fH Γ σ5 H := by rw [eσ5]; exact hP
        refine lv_aload_n C.1 C.2.1 (kd kX8_addsVehicle_0 47 rfl) rfl (lv_at hl 1 rfl) ?_
        refine fl_get (j := 0) (v := .ref (Γ.1 165)) C hP rfl (Nat.le_of_ble_eq_true rfl) rfl inX8 (Nat.le_of_ble_eq_true rfl) tw_862 rfl (kd kX8_addsVehicle_0 48 rfl) ?_
        refine lv_iload C.1 C.2.1 (kd kX8_addsVehicle_0 49 rfl) (lv_at hl 0 rfl) ?_
        refine lv_iconst (v := (2 : Int32)) C.1 C.2.1 (kd kX8_addsVehicle_0 50 rfl) (by decide) ?_
        refine lv_iadd C.1 C.2.1 (kd kX8_addsVehicle_0 51 rfl) ?_
        refine lv_iload_n C.1 C.2.1 (kd kX8_addsVehicle_0 52 rfl) rfl (lv_at hl 4 rfl) ?_
        obtain ⟨hq, hf⟩ := fb_some hf
        obtain ⟨σ6, eσ6, hf⟩ := fL_some hf
        refine fl_iast C hP hS rfl hq (kd kX8_addsVehicle_0 53 rfl) (fun H locs hP hS => ?_)
        have hP : fH Γ σ6 H := by rw [eσ6]; exact hP
        refine lv_aload_n C.1 C.2.1 (kd kX8_addsVehicle_0 54 rfl) rfl (lv_at hl 1 rfl) ?_
        refine fl_get (j := 0) (v := .ref (Γ.1 165)) C hP rfl (Nat.le_of_ble_eq_true rfl) rfl inX8 (Nat.le_of_ble_eq_true rfl) tw_862 rfl (kd kX8_addsVehicle_0 55 rfl) ?_
        refine lv_sipush (v := (171 : Int32)) C.1 C.2.1 (kd kX8_addsVehicle_0 56 rfl) (by decide) ?_
        refine lv_dup2_11 C.1 C.2.1 (kd kX8_addsVehicle_0 57 rfl) rfl rfl ?_
        obtain ⟨hq, hf⟩ := fb_some hf
        refine fl_iald C hP rfl hq (kd kX8_addsVehicle_0 58 rfl) ?_
        refine lv_iconst (v := (1 : Int32)) C.1 C.2.1 (kd kX8_addsVehicle_0 59 rfl) (by decide) ?_
        refine lv_iadd C.1 C.2.1 (kd kX8_addsVehicle_1 0 rfl) ?_
        obtain ⟨hq, hf⟩ := fb_some hf
        obtain ⟨σ7, eσ7, hf⟩ := fL_some hf
        refine fl_iast C hP hS rfl hq (kd kX8_addsVehicle_1 1 rfl) (fun H locs hP hS => ?_)
        have hP : fH Γ σ7 H := by rw [eσ7]; exact hP
        refine lv_aload_n C.1 C.2.1 (kd kX8_addsVehicle_1 2 rfl) rfl (lv_at hl 1 rfl) ?_
        refine fl_get (j := 0) (v := .ref (Γ.1 165)) C hP rfl (Nat.le_of_ble_eq_true rfl) rfl inX8 (Nat.le_of_ble_eq_true rfl) tw_862 rfl (kd kX8_addsVehicle_1 3 rfl) ?_
        refine lv_sipush (v := (171 : Int32)) C.1 C.2.1 (kd kX8_addsVehicle_1 4 rfl) (by decide) ?_
        obtain ⟨hq, hf⟩ := fb_some hf
        refine fl_iald C hP rfl hq (kd kX8_addsVehicle_1 5 rfl) ?_
        refine lv_iconst (v := (1 : Int32)) C.1 C.2.1 (kd kX8_addsVehicle_1 6 rfl) (by decide) ?_
        refine lv_isub C.1 C.2.1 (kd kX8_addsVehicle_1 7 rfl) ?_
        exact fl_iret C hP hS hf (kd kX8_addsVehicle_1 8 rfl)
      have hf := fif_pos q hf
      refine lv_sipush (v := (-10003 : Int32)) C.1 C.2.1 (kd kX8_addsVehicle_0 24 rfl) (by decide) ?_
      exact fl_iret C hP hS hf (kd kX8_addsVehicle_0 25 rfl)
    have hf := fif_pos q hf
    refine lv_sipush (v := (-10002 : Int32)) C.1 C.2.1 (kd kX8_addsVehicle_0 16 rfl) (by decide) ?_
    exact fl_iret C hP hS hf (kd kX8_addsVehicle_0 17 rfl)
  have hf := fif_pos q hf
  refine lv_sipush (v := (-10001 : Int32)) C.1 C.2.1 (kd kX8_addsVehicle_0 4 rfl) (by decide) ?_
  exact fl_iret C hP hS hf (kd kX8_addsVehicle_0 5 rfl)
def f_X8_addsConnection (x1 : Int32) (x2 : Int32) (x3 : Int32) (x4 : Int32) (σ : fS) : Option (Int32 × fS) := fcall (f_X8_isCrossing x1 σ) (fun r1_ σ1 => (if r1_ = 0 then some ((-10001 : Int32), σ1) else fcall (f_X8_in x2 (0 : Int32) (2800 : Int32) σ1) (fun r2_ σ2 => (if r2_ = 0 then some ((-10002 : Int32), σ2) else fcall (f_X8_in x3 (0 : Int32) (60 : Int32) σ2) (fun r3_ σ3 => (if r3_ = 0 then some ((-10002 : Int32), σ3) else fcall (f_X8_in x4 (1 : Int32) (999 : Int32) σ3) (fun r4_ σ4 => (if r4_ = 0 then some ((-10002 : Int32), σ4) else fb (244 : Int32) 277 ((if (σ4 165 (244 : Int32).toNatClampNeg) = (8 : Int32) then some ((-10003 : Int32), σ4) else fb (244 : Int32) 277 (fb ((245 : Int32) + ((4 : Int32) * (σ4 165 (244 : Int32).toNatClampNeg))) 277 (fL (fu σ4 165 ((245 : Int32) + ((4 : Int32) * (σ4 165 (244 : Int32).toNatClampNeg))).toNatClampNeg x1) (fun σ5 => fb (((245 : Int32) + ((4 : Int32) * (σ4 165 (244 : Int32).toNatClampNeg))) + (1 : Int32)) 277 (fL (fu σ5 165 (((245 : Int32) + ((4 : Int32) * (σ4 165 (244 : Int32).toNatClampNeg))) + (1 : Int32)).toNatClampNeg x2) (fun σ6 => fb (((245 : Int32) + ((4 : Int32) * (σ4 165 (244 : Int32).toNatClampNeg))) + (2 : Int32)) 277 (fL (fu σ6 165 (((245 : Int32) + ((4 : Int32) * (σ4 165 (244 : Int32).toNatClampNeg))) + (2 : Int32)).toNatClampNeg x3) (fun σ7 => fb (((245 : Int32) + ((4 : Int32) * (σ4 165 (244 : Int32).toNatClampNeg))) + (3 : Int32)) 277 (fL (fu σ7 165 (((245 : Int32) + ((4 : Int32) * (σ4 165 (244 : Int32).toNatClampNeg))) + (3 : Int32)).toNatClampNeg x4) (fun σ8 => fb (244 : Int32) 277 (fb (244 : Int32) 277 (fL (fu σ8 165 (244 : Int32).toNatClampNeg ((σ8 165 (244 : Int32).toNatClampNeg) + (1 : Int32))) (fun σ9 => fb (244 : Int32) 277 (some (((σ9 165 (244 : Int32).toNatClampNeg) - (1 : Int32)), σ9))))))))))))))))))))))))
set_option maxRecDepth 100000 in
set_option maxHeartbeats 4000000 in
theorem m_X8_addsConnection {Γ : fGm} (hI : fI Γ) (l : Launch) {x1 : Int32} {x2 : Int32} {x3 : Int32} {x4 : Int32} {σ : fS} {r : Int32} {σ' : fS} (hf : f_X8_addsConnection x1 x2 x3 x4 σ = some (r, σ')) : Met l yX8_addsConnection (.code yX8_addsConnection cX8_addsConnection 6 (some .int) :: lw_g) ({ frames := 2, cells := 0, slots := 0, locals := 43 } : Room) (fPre Γ [.ref (Γ.1 164), .int x1, .int x2, .int x3, .int x4] σ) (fQi Γ r σ') 0 0 (fAd Γ) := by
  refine fl_enter (own := RX8) hI (by decide +kernel) rfl (Nat.le_of_ble_eq_true rfl) ?_
  intro p e s m args below meth c ls C hl hP hS
  have hl : lv_has ls 6 [(0, .ref (Γ.1 164)), (1, .int x1), (2, .int x2), (3, .int x3), (4, .int x4)] := hl
  obtain ⟨H, hH⟩ : ∃ H, H = s.heap := ⟨_, rfl⟩
  obtain ⟨locs, hL⟩ : ∃ L : List Loc, L = [] := ⟨_, rfl⟩
  have hP : fH Γ σ H := by rw [hH]; exact hP
  have hS : va_S (fAd Γ) s.heap H locs := by rw [hH, hL]; exact hS
  suffices hw : W p l e ({ frames := 2, cells := 0, slots := 0, locals := 43 } : Room) s m args below meth c H locs 0 0 (MQ below (fQi Γ r σ') args s 0 0 (fAd Γ)) (F0 m 0 ls []) by rw [hH, hL] at hw; exact hw
  unfold f_X8_addsConnection at hf
  refine lv_aload_n C.1 C.2.1 (kd kX8_addsConnection_0 0 rfl) rfl (lv_at hl 0 rfl) ?_
  refine lv_iload_n C.1 C.2.1 (kd kX8_addsConnection_0 1 rfl) rfl (lv_at hl 1 rfl) ?_
  obtain ⟨r1_, σ1, hσ1, hf⟩ := fcall_some hf
  refine fl_i hS (fl_runV (As := [.int x1]) (rest := []) C hP rfl (Nat.le_of_ble_eq_true rfl) rfl (m_X8_isCrossing C.2.2.2.2.2.2.2.2 l  hσ1) (fgV tw_1010 tw_1012 tw_28 tw_75 tw_1013) hd_X8_isCrossing ⟨rfl, rfl, Nat.le_of_ble_eq_true rfl, Nat.le_of_ble_eq_true rfl⟩ rfl hl.1 rfl (Nat.le_of_ble_eq_true rfl) (kd kX8_addsConnection_0 2 rfl)) (fun H locs hP hS => ?_)
  refine lv_if_ne (tgt := 12) C.1 C.2.1 (kd kX8_addsConnection_0 3 rfl) (by decide) (fun q => ?_) (fun q => ?_)
  · have hf := fif_neg q hf
    refine lv_iload_n C.1 C.2.1 (kd kX8_addsConnection_0 6 rfl) rfl (lv_at hl 2 rfl) ?_
    refine lv_iconst (v := (0 : Int32)) C.1 C.2.1 (kd kX8_addsConnection_0 7 rfl) (by decide) ?_
    refine lv_sipush (v := (2800 : Int32)) C.1 C.2.1 (kd kX8_addsConnection_0 8 rfl) (by decide) ?_
    obtain ⟨r2_, σ2, hσ2, hf⟩ := fcall_some hf
    refine fl_i hS (fl_runS (As := [.int x2, .int (0 : Int32), .int (2800 : Int32)]) (rest := []) C hP (m_X8_in C.2.2.2.2.2.2.2.2 l  hσ2) (fgS tw_968 tw_969 tw_75 tw_970) hs_X8_in ⟨rfl, rfl, Nat.le_of_ble_eq_true rfl, Nat.le_of_ble_eq_true rfl⟩ rfl hl.1 rfl (Nat.le_of_ble_eq_true rfl) (kd kX8_addsConnection_0 9 rfl)) (fun H locs hP hS => ?_)
    refine lv_if_eq (tgt := 45) C.1 C.2.1 (kd kX8_addsConnection_0 10 rfl) (by decide) (fun q => ?_) (fun q => ?_)
    · have hf := fif_pos q hf
      refine lv_sipush (v := (-10002 : Int32)) C.1 C.2.1 (kd kX8_addsConnection_0 21 rfl) (by decide) ?_
      exact fl_iret C hP hS hf (kd kX8_addsConnection_0 22 rfl)
    have hf := fif_neg q hf
    refine lv_iload_n C.1 C.2.1 (kd kX8_addsConnection_0 11 rfl) rfl (lv_at hl 3 rfl) ?_
    refine lv_iconst (v := (0 : Int32)) C.1 C.2.1 (kd kX8_addsConnection_0 12 rfl) (by decide) ?_
    refine lv_bipush (v := (60 : Int32)) C.1 C.2.1 (kd kX8_addsConnection_0 13 rfl) (by decide) ?_
    obtain ⟨r3_, σ3, hσ3, hf⟩ := fcall_some hf
    refine fl_i hS (fl_runS (As := [.int x3, .int (0 : Int32), .int (60 : Int32)]) (rest := []) C hP (m_X8_in C.2.2.2.2.2.2.2.2 l  hσ3) (fgS tw_968 tw_969 tw_75 tw_970) hs_X8_in ⟨rfl, rfl, Nat.le_of_ble_eq_true rfl, Nat.le_of_ble_eq_true rfl⟩ rfl hl.1 rfl (Nat.le_of_ble_eq_true rfl) (kd kX8_addsConnection_0 14 rfl)) (fun H locs hP hS => ?_)
    refine lv_if_eq (tgt := 45) C.1 C.2.1 (kd kX8_addsConnection_0 15 rfl) (by decide) (fun q => ?_) (fun q => ?_)
    · have hf := fif_pos q hf
      refine lv_sipush (v := (-10002 : Int32)) C.1 C.2.1 (kd kX8_addsConnection_0 21 rfl) (by decide) ?_
      exact fl_iret C hP hS hf (kd kX8_addsConnection_0 22 rfl)
    have hf := fif_neg q hf
    refine lv_iload C.1 C.2.1 (kd kX8_addsConnection_0 16 rfl) (lv_at hl 4 rfl) ?_
    refine lv_iconst (v := (1 : Int32)) C.1 C.2.1 (kd kX8_addsConnection_0 17 rfl) (by decide) ?_
    refine lv_sipush (v := (999 : Int32)) C.1 C.2.1 (kd kX8_addsConnection_0 18 rfl) (by decide) ?_
    obtain ⟨r4_, σ4, hσ4, hf⟩ := fcall_some hf
    refine fl_i hS (fl_runS (As := [.int x4, .int (1 : Int32), .int (999 : Int32)]) (rest := []) C hP (m_X8_in C.2.2.2.2.2.2.2.2 l  hσ4) (fgS tw_968 tw_969 tw_75 tw_970) hs_X8_in ⟨rfl, rfl, Nat.le_of_ble_eq_true rfl, Nat.le_of_ble_eq_true rfl⟩ rfl hl.1 rfl (Nat.le_of_ble_eq_true rfl) (kd kX8_addsConnection_0 19 rfl)) (fun H locs hP hS => ?_)
    refine lv_if_ne (tgt := 49) C.1 C.2.1 (kd kX8_addsConnection_0 20 rfl) (by decide) (fun q => ?_) (fun q => ?_)
    · have hf := fif_neg q hf
      refine lv_aload_n C.1 C.2.1 (kd kX8_addsConnection_0 23 rfl) rfl (lv_at hl 0 rfl) ?_
      refine fl_get (j := 0) (v := .ref (Γ.1 165)) C hP rfl (Nat.le_of_ble_eq_true rfl) rfl inX8 (Nat.le_of_ble_eq_true rfl) tw_862 rfl (kd kX8_addsConnection_0 24 rfl) ?_
      refine lv_sipush (v := (244 : Int32)) C.1 C.2.1 (kd kX8_addsConnection_0 25 rfl) (by decide) ?_
      obtain ⟨hq, hf⟩ := fb_some hf
      refine fl_iald C hP rfl hq (kd kX8_addsConnection_0 26 rfl) ?_
      refine lv_bipush (v := (8 : Int32)) C.1 C.2.1 (kd kX8_addsConnection_0 27 rfl) (by decide) ?_
      refine lv_icmp_ne (tgt := 66) C.1 C.2.1 (kd kX8_addsConnection_0 28 rfl) (by decide) (fun q => ?_) (fun q => ?_)
      · have hf := fif_neg q hf
        refine lv_sipush (v := (245 : Int32)) C.1 C.2.1 (kd kX8_addsConnection_0 31 rfl) (by decide) ?_
        refine lv_iconst (v := (4 : Int32)) C.1 C.2.1 (kd kX8_addsConnection_0 32 rfl) (by decide) ?_
        refine lv_aload_n C.1 C.2.1 (kd kX8_addsConnection_0 33 rfl) rfl (lv_at hl 0 rfl) ?_
        refine fl_get (j := 0) (v := .ref (Γ.1 165)) C hP rfl (Nat.le_of_ble_eq_true rfl) rfl inX8 (Nat.le_of_ble_eq_true rfl) tw_862 rfl (kd kX8_addsConnection_0 34 rfl) ?_
        refine lv_sipush (v := (244 : Int32)) C.1 C.2.1 (kd kX8_addsConnection_0 35 rfl) (by decide) ?_
        obtain ⟨hq, hf⟩ := fb_some hf
        refine fl_iald C hP rfl hq (kd kX8_addsConnection_0 36 rfl) ?_
        refine lv_imul C.1 C.2.1 (kd kX8_addsConnection_0 37 rfl) ?_
        refine lv_iadd C.1 C.2.1 (kd kX8_addsConnection_0 38 rfl) ?_
        refine lv_istore (lv' := [(5, .int ((245 : Int32) + ((4 : Int32) * (σ4 165 (244 : Int32).toNatClampNeg)))), (0, .ref (Γ.1 164)), (1, .int x1), (2, .int x2), (3, .int x3), (4, .int x4)]) C.1 C.2.1 (kd kX8_addsConnection_0 39 rfl) hl (Nat.le_of_ble_eq_true rfl) rfl (fun ls hl => ?_)
        refine lv_aload_n C.1 C.2.1 (kd kX8_addsConnection_0 40 rfl) rfl (lv_at hl 1 rfl) ?_
        refine fl_get (j := 0) (v := .ref (Γ.1 165)) C hP rfl (Nat.le_of_ble_eq_true rfl) rfl inX8 (Nat.le_of_ble_eq_true rfl) tw_862 rfl (kd kX8_addsConnection_0 41 rfl) ?_
        refine lv_iload C.1 C.2.1 (kd kX8_addsConnection_0 42 rfl) (lv_at hl 0 rfl) ?_
        refine lv_iload_n C.1 C.2.1 (kd kX8_addsConnection_0 43 rfl) rfl (lv_at hl 2 rfl) ?_
        obtain ⟨hq, hf⟩ := fb_some hf
        obtain ⟨σ5, eσ5, hf⟩ := fL_some hf
        refine fl_iast C hP hS rfl hq (kd kX8_addsConnection_0 44 rfl) (fun H locs hP hS => ?_)
        have hP : fH Γ σ5 H := by rw [eσ5]; exact hP
        refine lv_aload_n C.1 C.2.1 (kd kX8_addsConnection_0 45 rfl) rfl (lv_at hl 1 rfl) ?_
        refine fl_get (j := 0) (v := .ref (Γ.1 165)) C hP rfl (Nat.le_of_ble_eq_true rfl) rfl inX8 (Nat.le_of_ble_eq_true rfl) tw_862 rfl (kd kX8_addsConnection_0 46 rfl) ?_
        refine lv_iload C.1 C.2.1 (kd kX8_addsConnection_0 47 rfl) (lv_at hl 0 rfl) ?_
        refine lv_iconst (v := (1 : Int32)) C.1 C.2.1 (kd kX8_addsConnection_0 48 rfl) (by decide) ?_
        refine lv_iadd C.1 C.2.1 (kd kX8_addsConnection_0 49 rfl) ?_
        refine lv_iload_n C.1 C.2.1 (kd kX8_addsConnection_0 50 rfl) rfl (lv_at hl 3 rfl) ?_
        obtain ⟨hq, hf⟩ := fb_some hf
        obtain ⟨σ6, eσ6, hf⟩ := fL_some hf
        refine fl_iast C hP hS rfl hq (kd kX8_addsConnection_0 51 rfl) (fun H locs hP hS => ?_)
        have hP : fH Γ σ6 H := by rw [eσ6]; exact hP
        refine lv_aload_n C.1 C.2.1 (kd kX8_addsConnection_0 52 rfl) rfl (lv_at hl 1 rfl) ?_
        refine fl_get (j := 0) (v := .ref (Γ.1 165)) C hP rfl (Nat.le_of_ble_eq_true rfl) rfl inX8 (Nat.le_of_ble_eq_true rfl) tw_862 rfl (kd kX8_addsConnection_0 53 rfl) ?_
        refine lv_iload C.1 C.2.1 (kd kX8_addsConnection_0 54 rfl) (lv_at hl 0 rfl) ?_
        refine lv_iconst (v := (2 : Int32)) C.1 C.2.1 (kd kX8_addsConnection_0 55 rfl) (by decide) ?_
        refine lv_iadd C.1 C.2.1 (kd kX8_addsConnection_0 56 rfl) ?_
        refine lv_iload_n C.1 C.2.1 (kd kX8_addsConnection_0 57 rfl) rfl (lv_at hl 4 rfl) ?_
        obtain ⟨hq, hf⟩ := fb_some hf
        obtain ⟨σ7, eσ7, hf⟩ := fL_some hf
        refine fl_iast C hP hS rfl hq (kd kX8_addsConnection_0 58 rfl) (fun H locs hP hS => ?_)
        have hP : fH Γ σ7 H := by rw [eσ7]; exact hP
        refine lv_aload_n C.1 C.2.1 (kd kX8_addsConnection_0 59 rfl) rfl (lv_at hl 1 rfl) ?_
        refine fl_get (j := 0) (v := .ref (Γ.1 165)) C hP rfl (Nat.le_of_ble_eq_true rfl) rfl inX8 (Nat.le_of_ble_eq_true rfl) tw_862 rfl (kd kX8_addsConnection_1 0 rfl) ?_
        refine lv_iload C.1 C.2.1 (kd kX8_addsConnection_1 1 rfl) (lv_at hl 0 rfl) ?_
        refine lv_iconst (v := (3 : Int32)) C.1 C.2.1 (kd kX8_addsConnection_1 2 rfl) (by decide) ?_
        refine lv_iadd C.1 C.2.1 (kd kX8_addsConnection_1 3 rfl) ?_
        refine lv_iload C.1 C.2.1 (kd kX8_addsConnection_1 4 rfl) (lv_at hl 5 rfl) ?_
        obtain ⟨hq, hf⟩ := fb_some hf
        obtain ⟨σ8, eσ8, hf⟩ := fL_some hf
        refine fl_iast C hP hS rfl hq (kd kX8_addsConnection_1 5 rfl) (fun H locs hP hS => ?_)
        have hP : fH Γ σ8 H := by rw [eσ8]; exact hP
        refine lv_aload_n C.1 C.2.1 (kd kX8_addsConnection_1 6 rfl) rfl (lv_at hl 1 rfl) ?_
        refine fl_get (j := 0) (v := .ref (Γ.1 165)) C hP rfl (Nat.le_of_ble_eq_true rfl) rfl inX8 (Nat.le_of_ble_eq_true rfl) tw_862 rfl (kd kX8_addsConnection_1 7 rfl) ?_
        refine lv_sipush (v := (244 : Int32)) C.1 C.2.1 (kd kX8_addsConnection_1 8 rfl) (by decide) ?_
        refine lv_dup2_11 C.1 C.2.1 (kd kX8_addsConnection_1 9 rfl) rfl rfl ?_
        obtain ⟨hq, hf⟩ := fb_some hf
        refine fl_iald C hP rfl hq (kd kX8_addsConnection_1 10 rfl) ?_
        refine lv_iconst (v := (1 : Int32)) C.1 C.2.1 (kd kX8_addsConnection_1 11 rfl) (by decide) ?_
        refine lv_iadd C.1 C.2.1 (kd kX8_addsConnection_1 12 rfl) ?_
        obtain ⟨hq, hf⟩ := fb_some hf
        obtain ⟨σ9, eσ9, hf⟩ := fL_some hf
        refine fl_iast C hP hS rfl hq (kd kX8_addsConnection_1 13 rfl) (fun H locs hP hS => ?_)
        have hP : fH Γ σ9 H := by rw [eσ9]; exact hP
        refine lv_aload_n C.1 C.2.1 (kd kX8_addsConnection_1 14 rfl) rfl (lv_at hl 1 rfl) ?_
        refine fl_get (j := 0) (v := .ref (Γ.1 165)) C hP rfl (Nat.le_of_ble_eq_true rfl) rfl inX8 (Nat.le_of_ble_eq_true rfl) tw_862 rfl (kd kX8_addsConnection_1 15 rfl) ?_
        refine lv_sipush (v := (244 : Int32)) C.1 C.2.1 (kd kX8_addsConnection_1 16 rfl) (by decide) ?_
        obtain ⟨hq, hf⟩ := fb_some hf
        refine fl_iald C hP rfl hq (kd kX8_addsConnection_1 17 rfl) ?_
        refine lv_iconst (v := (1 : Int32)) C.1 C.2.1 (kd kX8_addsConnection_1 18 rfl) (by decide) ?_
        refine lv_isub C.1 C.2.1 (kd kX8_addsConnection_1 19 rfl) ?_
        exact fl_iret C hP hS hf (kd kX8_addsConnection_1 20 rfl)
      have hf := fif_pos q hf
      refine lv_sipush (v := (-10003 : Int32)) C.1 C.2.1 (kd kX8_addsConnection_0 29 rfl) (by decide) ?_
      exact fl_iret C hP hS hf (kd kX8_addsConnection_0 30 rfl)
    have hf := fif_pos q hf
    refine lv_sipush (v := (-10002 : Int32)) C.1 C.2.1 (kd kX8_addsConnection_0 21 rfl) (by decide) ?_
    exact fl_iret C hP hS hf (kd kX8_addsConnection_0 22 rfl)
  have hf := fif_pos q hf
  refine lv_sipush (v := (-10001 : Int32)) C.1 C.2.1 (kd kX8_addsConnection_0 4 rfl) (by decide) ?_
  exact fl_iret C hP hS hf (kd kX8_addsConnection_0 5 rfl)
def f_X8_setsTide (x1 : Int32) (x2 : Int32) (σ : fS) : Option (Int32 × fS) := fcall (f_X8_in x1 (0 : Int32) (48 : Int32) σ) (fun r1_ σ1 => (if r1_ = 0 then some ((-10001 : Int32), σ1) else fcall (f_X8_in x2 (-999 : Int32) (999 : Int32) σ1) (fun r2_ σ2 => (if r2_ = 0 then some ((-10002 : Int32), σ2) else fb ((0 : Int32) + x1) 277 (fb ((0 : Int32) + x1) 277 (fL (fu σ2 165 ((0 : Int32) + x1).toNatClampNeg x2) (fun σ3 => some ((σ2 165 ((0 : Int32) + x1).toNatClampNeg), σ3))))))))
set_option maxRecDepth 100000 in
set_option maxHeartbeats 4000000 in
theorem m_X8_setsTide {Γ : fGm} (hI : fI Γ) (l : Launch) {x1 : Int32} {x2 : Int32} {σ : fS} {r : Int32} {σ' : fS} (hf : f_X8_setsTide x1 x2 σ = some (r, σ')) : Met l yX8_setsTide (.code yX8_setsTide cX8_setsTide 4 (some .int) :: lw_g) ({ frames := 1, cells := 0, slots := 0, locals := 22 } : Room) (fPre Γ [.ref (Γ.1 164), .int x1, .int x2] σ) (fQi Γ r σ') 0 0 (fAd Γ) := by
  refine fl_enter (own := RX8) hI (by decide +kernel) rfl (Nat.le_of_ble_eq_true rfl) ?_
  intro p e s m args below meth c ls C hl hP hS
  have hl : lv_has ls 4 [(0, .ref (Γ.1 164)), (1, .int x1), (2, .int x2)] := hl
  obtain ⟨H, hH⟩ : ∃ H, H = s.heap := ⟨_, rfl⟩
  obtain ⟨locs, hL⟩ : ∃ L : List Loc, L = [] := ⟨_, rfl⟩
  have hP : fH Γ σ H := by rw [hH]; exact hP
  have hS : va_S (fAd Γ) s.heap H locs := by rw [hH, hL]; exact hS
  suffices hw : W p l e ({ frames := 1, cells := 0, slots := 0, locals := 22 } : Room) s m args below meth c H locs 0 0 (MQ below (fQi Γ r σ') args s 0 0 (fAd Γ)) (F0 m 0 ls []) by rw [hH, hL] at hw; exact hw
  unfold f_X8_setsTide at hf
  refine lv_iload_n C.1 C.2.1 (kd kX8_setsTide_0 0 rfl) rfl (lv_at hl 1 rfl) ?_
  refine lv_iconst (v := (0 : Int32)) C.1 C.2.1 (kd kX8_setsTide_0 1 rfl) (by decide) ?_
  refine lv_bipush (v := (48 : Int32)) C.1 C.2.1 (kd kX8_setsTide_0 2 rfl) (by decide) ?_
  obtain ⟨r1_, σ1, hσ1, hf⟩ := fcall_some hf
  refine fl_i hS (fl_runS (As := [.int x1, .int (0 : Int32), .int (48 : Int32)]) (rest := []) C hP (m_X8_in C.2.2.2.2.2.2.2.2 l  hσ1) (fgS tw_968 tw_969 tw_75 tw_970) hs_X8_in ⟨rfl, rfl, Nat.le_of_ble_eq_true rfl, Nat.le_of_ble_eq_true rfl⟩ rfl hl.1 rfl (Nat.le_of_ble_eq_true rfl) (kd kX8_setsTide_0 3 rfl)) (fun H locs hP hS => ?_)
  refine lv_if_ne (tgt := 14) C.1 C.2.1 (kd kX8_setsTide_0 4 rfl) (by decide) (fun q => ?_) (fun q => ?_)
  · have hf := fif_neg q hf
    refine lv_iload_n C.1 C.2.1 (kd kX8_setsTide_0 7 rfl) rfl (lv_at hl 2 rfl) ?_
    refine lv_sipush (v := (-999 : Int32)) C.1 C.2.1 (kd kX8_setsTide_0 8 rfl) (by decide) ?_
    refine lv_sipush (v := (999 : Int32)) C.1 C.2.1 (kd kX8_setsTide_0 9 rfl) (by decide) ?_
    obtain ⟨r2_, σ2, hσ2, hf⟩ := fcall_some hf
    refine fl_i hS (fl_runS (As := [.int x2, .int (-999 : Int32), .int (999 : Int32)]) (rest := []) C hP (m_X8_in C.2.2.2.2.2.2.2.2 l  hσ2) (fgS tw_968 tw_969 tw_75 tw_970) hs_X8_in ⟨rfl, rfl, Nat.le_of_ble_eq_true rfl, Nat.le_of_ble_eq_true rfl⟩ rfl hl.1 rfl (Nat.le_of_ble_eq_true rfl) (kd kX8_setsTide_0 10 rfl)) (fun H locs hP hS => ?_)
    refine lv_if_ne (tgt := 31) C.1 C.2.1 (kd kX8_setsTide_0 11 rfl) (by decide) (fun q => ?_) (fun q => ?_)
    · have hf := fif_neg q hf
      refine lv_aload_n C.1 C.2.1 (kd kX8_setsTide_0 14 rfl) rfl (lv_at hl 0 rfl) ?_
      refine fl_get (j := 0) (v := .ref (Γ.1 165)) C hP rfl (Nat.le_of_ble_eq_true rfl) rfl inX8 (Nat.le_of_ble_eq_true rfl) tw_862 rfl (kd kX8_setsTide_0 15 rfl) ?_
      refine lv_iconst (v := (0 : Int32)) C.1 C.2.1 (kd kX8_setsTide_0 16 rfl) (by decide) ?_
      refine lv_iload_n C.1 C.2.1 (kd kX8_setsTide_0 17 rfl) rfl (lv_at hl 1 rfl) ?_
      refine lv_iadd C.1 C.2.1 (kd kX8_setsTide_0 18 rfl) ?_
      obtain ⟨hq, hf⟩ := fb_some hf
      refine fl_iald C hP rfl hq (kd kX8_setsTide_0 19 rfl) ?_
      refine lv_istore_n (lv' := [(3, .int (σ2 165 ((0 : Int32) + x1).toNatClampNeg)), (0, .ref (Γ.1 164)), (1, .int x1), (2, .int x2)]) C.1 C.2.1 (kd kX8_setsTide_0 20 rfl) rfl hl (Nat.le_of_ble_eq_true rfl) rfl (fun ls hl => ?_)
      refine lv_aload_n C.1 C.2.1 (kd kX8_setsTide_0 21 rfl) rfl (lv_at hl 1 rfl) ?_
      refine fl_get (j := 0) (v := .ref (Γ.1 165)) C hP rfl (Nat.le_of_ble_eq_true rfl) rfl inX8 (Nat.le_of_ble_eq_true rfl) tw_862 rfl (kd kX8_setsTide_0 22 rfl) ?_
      refine lv_iconst (v := (0 : Int32)) C.1 C.2.1 (kd kX8_setsTide_0 23 rfl) (by decide) ?_
      refine lv_iload_n C.1 C.2.1 (kd kX8_setsTide_0 24 rfl) rfl (lv_at hl 2 rfl) ?_
      refine lv_iadd C.1 C.2.1 (kd kX8_setsTide_0 25 rfl) ?_
      refine lv_iload_n C.1 C.2.1 (kd kX8_setsTide_0 26 rfl) rfl (lv_at hl 3 rfl) ?_
      obtain ⟨hq, hf⟩ := fb_some hf
      obtain ⟨σ3, eσ3, hf⟩ := fL_some hf
      refine fl_iast C hP hS rfl hq (kd kX8_setsTide_0 27 rfl) (fun H locs hP hS => ?_)
      have hP : fH Γ σ3 H := by rw [eσ3]; exact hP
      refine lv_iload_n C.1 C.2.1 (kd kX8_setsTide_0 28 rfl) rfl (lv_at hl 0 rfl) ?_
      exact fl_iret C hP hS hf (kd kX8_setsTide_0 29 rfl)
    have hf := fif_pos q hf
    refine lv_sipush (v := (-10002 : Int32)) C.1 C.2.1 (kd kX8_setsTide_0 12 rfl) (by decide) ?_
    exact fl_iret C hP hS hf (kd kX8_setsTide_0 13 rfl)
  have hf := fif_pos q hf
  refine lv_sipush (v := (-10001 : Int32)) C.1 C.2.1 (kd kX8_setsTide_0 5 rfl) (by decide) ?_
  exact fl_iret C hP hS hf (kd kX8_setsTide_0 6 rfl)
def f_X8_setsWind (x1 : Int32) (x2 : Int32) (σ : fS) : Option (Int32 × fS) := fcall (f_X8_in x1 (0 : Int32) (47 : Int32) σ) (fun r1_ σ1 => (if r1_ = 0 then some ((-10001 : Int32), σ1) else fcall (f_X8_in x2 (0 : Int32) (99 : Int32) σ1) (fun r2_ σ2 => (if r2_ = 0 then some ((-10002 : Int32), σ2) else fb ((49 : Int32) + x1) 277 (fb ((49 : Int32) + x1) 277 (fL (fu σ2 165 ((49 : Int32) + x1).toNatClampNeg x2) (fun σ3 => some ((σ2 165 ((49 : Int32) + x1).toNatClampNeg), σ3))))))))
set_option maxRecDepth 100000 in
set_option maxHeartbeats 4000000 in
theorem m_X8_setsWind {Γ : fGm} (hI : fI Γ) (l : Launch) {x1 : Int32} {x2 : Int32} {σ : fS} {r : Int32} {σ' : fS} (hf : f_X8_setsWind x1 x2 σ = some (r, σ')) : Met l yX8_setsWind (.code yX8_setsWind cX8_setsWind 4 (some .int) :: lw_g) ({ frames := 1, cells := 0, slots := 0, locals := 22 } : Room) (fPre Γ [.ref (Γ.1 164), .int x1, .int x2] σ) (fQi Γ r σ') 0 0 (fAd Γ) := by
  refine fl_enter (own := RX8) hI (by decide +kernel) rfl (Nat.le_of_ble_eq_true rfl) ?_
  intro p e s m args below meth c ls C hl hP hS
  have hl : lv_has ls 4 [(0, .ref (Γ.1 164)), (1, .int x1), (2, .int x2)] := hl
  obtain ⟨H, hH⟩ : ∃ H, H = s.heap := ⟨_, rfl⟩
  obtain ⟨locs, hL⟩ : ∃ L : List Loc, L = [] := ⟨_, rfl⟩
  have hP : fH Γ σ H := by rw [hH]; exact hP
  have hS : va_S (fAd Γ) s.heap H locs := by rw [hH, hL]; exact hS
  suffices hw : W p l e ({ frames := 1, cells := 0, slots := 0, locals := 22 } : Room) s m args below meth c H locs 0 0 (MQ below (fQi Γ r σ') args s 0 0 (fAd Γ)) (F0 m 0 ls []) by rw [hH, hL] at hw; exact hw
  unfold f_X8_setsWind at hf
  refine lv_iload_n C.1 C.2.1 (kd kX8_setsWind_0 0 rfl) rfl (lv_at hl 1 rfl) ?_
  refine lv_iconst (v := (0 : Int32)) C.1 C.2.1 (kd kX8_setsWind_0 1 rfl) (by decide) ?_
  refine lv_bipush (v := (47 : Int32)) C.1 C.2.1 (kd kX8_setsWind_0 2 rfl) (by decide) ?_
  obtain ⟨r1_, σ1, hσ1, hf⟩ := fcall_some hf
  refine fl_i hS (fl_runS (As := [.int x1, .int (0 : Int32), .int (47 : Int32)]) (rest := []) C hP (m_X8_in C.2.2.2.2.2.2.2.2 l  hσ1) (fgS tw_968 tw_969 tw_75 tw_970) hs_X8_in ⟨rfl, rfl, Nat.le_of_ble_eq_true rfl, Nat.le_of_ble_eq_true rfl⟩ rfl hl.1 rfl (Nat.le_of_ble_eq_true rfl) (kd kX8_setsWind_0 3 rfl)) (fun H locs hP hS => ?_)
  refine lv_if_ne (tgt := 14) C.1 C.2.1 (kd kX8_setsWind_0 4 rfl) (by decide) (fun q => ?_) (fun q => ?_)
  · have hf := fif_neg q hf
    refine lv_iload_n C.1 C.2.1 (kd kX8_setsWind_0 7 rfl) rfl (lv_at hl 2 rfl) ?_
    refine lv_iconst (v := (0 : Int32)) C.1 C.2.1 (kd kX8_setsWind_0 8 rfl) (by decide) ?_
    refine lv_bipush (v := (99 : Int32)) C.1 C.2.1 (kd kX8_setsWind_0 9 rfl) (by decide) ?_
    obtain ⟨r2_, σ2, hσ2, hf⟩ := fcall_some hf
    refine fl_i hS (fl_runS (As := [.int x2, .int (0 : Int32), .int (99 : Int32)]) (rest := []) C hP (m_X8_in C.2.2.2.2.2.2.2.2 l  hσ2) (fgS tw_968 tw_969 tw_75 tw_970) hs_X8_in ⟨rfl, rfl, Nat.le_of_ble_eq_true rfl, Nat.le_of_ble_eq_true rfl⟩ rfl hl.1 rfl (Nat.le_of_ble_eq_true rfl) (kd kX8_setsWind_0 10 rfl)) (fun H locs hP hS => ?_)
    refine lv_if_ne (tgt := 28) C.1 C.2.1 (kd kX8_setsWind_0 11 rfl) (by decide) (fun q => ?_) (fun q => ?_)
    · have hf := fif_neg q hf
      refine lv_aload_n C.1 C.2.1 (kd kX8_setsWind_0 14 rfl) rfl (lv_at hl 0 rfl) ?_
      refine fl_get (j := 0) (v := .ref (Γ.1 165)) C hP rfl (Nat.le_of_ble_eq_true rfl) rfl inX8 (Nat.le_of_ble_eq_true rfl) tw_862 rfl (kd kX8_setsWind_0 15 rfl) ?_
      refine lv_bipush (v := (49 : Int32)) C.1 C.2.1 (kd kX8_setsWind_0 16 rfl) (by decide) ?_
      refine lv_iload_n C.1 C.2.1 (kd kX8_setsWind_0 17 rfl) rfl (lv_at hl 1 rfl) ?_
      refine lv_iadd C.1 C.2.1 (kd kX8_setsWind_0 18 rfl) ?_
      obtain ⟨hq, hf⟩ := fb_some hf
      refine fl_iald C hP rfl hq (kd kX8_setsWind_0 19 rfl) ?_
      refine lv_istore_n (lv' := [(3, .int (σ2 165 ((49 : Int32) + x1).toNatClampNeg)), (0, .ref (Γ.1 164)), (1, .int x1), (2, .int x2)]) C.1 C.2.1 (kd kX8_setsWind_0 20 rfl) rfl hl (Nat.le_of_ble_eq_true rfl) rfl (fun ls hl => ?_)
      refine lv_aload_n C.1 C.2.1 (kd kX8_setsWind_0 21 rfl) rfl (lv_at hl 1 rfl) ?_
      refine fl_get (j := 0) (v := .ref (Γ.1 165)) C hP rfl (Nat.le_of_ble_eq_true rfl) rfl inX8 (Nat.le_of_ble_eq_true rfl) tw_862 rfl (kd kX8_setsWind_0 22 rfl) ?_
      refine lv_bipush (v := (49 : Int32)) C.1 C.2.1 (kd kX8_setsWind_0 23 rfl) (by decide) ?_
      refine lv_iload_n C.1 C.2.1 (kd kX8_setsWind_0 24 rfl) rfl (lv_at hl 2 rfl) ?_
      refine lv_iadd C.1 C.2.1 (kd kX8_setsWind_0 25 rfl) ?_
      refine lv_iload_n C.1 C.2.1 (kd kX8_setsWind_0 26 rfl) rfl (lv_at hl 3 rfl) ?_
      obtain ⟨hq, hf⟩ := fb_some hf
      obtain ⟨σ3, eσ3, hf⟩ := fL_some hf
      refine fl_iast C hP hS rfl hq (kd kX8_setsWind_0 27 rfl) (fun H locs hP hS => ?_)
      have hP : fH Γ σ3 H := by rw [eσ3]; exact hP
      refine lv_iload_n C.1 C.2.1 (kd kX8_setsWind_0 28 rfl) rfl (lv_at hl 0 rfl) ?_
      exact fl_iret C hP hS hf (kd kX8_setsWind_0 29 rfl)
    have hf := fif_pos q hf
    refine lv_sipush (v := (-10002 : Int32)) C.1 C.2.1 (kd kX8_setsWind_0 12 rfl) (by decide) ?_
    exact fl_iret C hP hS hf (kd kX8_setsWind_0 13 rfl)
  have hf := fif_pos q hf
  refine lv_sipush (v := (-10001 : Int32)) C.1 C.2.1 (kd kX8_setsWind_0 5 rfl) (by decide) ?_
  exact fl_iret C hP hS hf (kd kX8_setsWind_0 6 rfl)
def f_X8_addShip (x1 : Int32) (x2 : Int32) (x3 : Int32) (x4 : Int32) (σ : fS) : Option (Int32 × fS) := fcallv (f_X8_remembers σ) (fun σ1 => fcall (f_X8_addsShip x1 x2 x3 x4 σ1) (fun r2_ σ2 => fcall (f_X8_kept r2_ σ2) (fun r3_ σ3 => some (r3_, σ3))))
set_option maxRecDepth 100000 in
set_option maxHeartbeats 4000000 in
theorem m_X8_addShip {Γ : fGm} (hI : fI Γ) (l : Launch) {x1 : Int32} {x2 : Int32} {x3 : Int32} {x4 : Int32} {σ : fS} {r : Int32} {σ' : fS} (hf : f_X8_addShip x1 x2 x3 x4 σ = some (r, σ')) : Met l yX8_addShip (.code yX8_addShip cX8_addShip 5 (some .int) :: lw_g) ({ frames := 3, cells := 0, slots := 0, locals := 64 } : Room) (fPre Γ [.ref (Γ.1 164), .int x1, .int x2, .int x3, .int x4] σ) (fQi Γ r σ') 0 0 (fAd Γ) := by
  refine fl_enter (own := RX8) hI (by decide +kernel) rfl (Nat.le_of_ble_eq_true rfl) ?_
  intro p e s m args below meth c ls C hl hP hS
  have hl : lv_has ls 5 [(0, .ref (Γ.1 164)), (1, .int x1), (2, .int x2), (3, .int x3), (4, .int x4)] := hl
  obtain ⟨H, hH⟩ : ∃ H, H = s.heap := ⟨_, rfl⟩
  obtain ⟨locs, hL⟩ : ∃ L : List Loc, L = [] := ⟨_, rfl⟩
  have hP : fH Γ σ H := by rw [hH]; exact hP
  have hS : va_S (fAd Γ) s.heap H locs := by rw [hH, hL]; exact hS
  suffices hw : W p l e ({ frames := 3, cells := 0, slots := 0, locals := 64 } : Room) s m args below meth c H locs 0 0 (MQ below (fQi Γ r σ') args s 0 0 (fAd Γ)) (F0 m 0 ls []) by rw [hH, hL] at hw; exact hw
  unfold f_X8_addShip at hf
  refine lv_aload_n C.1 C.2.1 (kd kX8_addShip_0 0 rfl) rfl (lv_at hl 0 rfl) ?_
  obtain ⟨σ1, hσ1, hf⟩ := fcallv_some hf
  refine fl_v hS (fl_runV (As := []) (rest := []) C hP rfl (Nat.le_of_ble_eq_true rfl) rfl (m_X8_remembers C.2.2.2.2.2.2.2.2 l  hσ1) (fgV tw_960 tw_962 tw_20 tw_75 tw_963) hd_X8_remembers ⟨rfl, rfl, Nat.le_of_ble_eq_true rfl, Nat.le_of_ble_eq_true rfl⟩ rfl hl.1 rfl (Nat.le_of_ble_eq_true rfl) (kd kX8_addShip_0 1 rfl)) (fun H locs hP hS => ?_)
  refine lv_aload_n C.1 C.2.1 (kd kX8_addShip_0 2 rfl) rfl (lv_at hl 0 rfl) ?_
  refine lv_aload_n C.1 C.2.1 (kd kX8_addShip_0 3 rfl) rfl (lv_at hl 0 rfl) ?_
  refine lv_iload_n C.1 C.2.1 (kd kX8_addShip_0 4 rfl) rfl (lv_at hl 1 rfl) ?_
  refine lv_iload_n C.1 C.2.1 (kd kX8_addShip_0 5 rfl) rfl (lv_at hl 2 rfl) ?_
  refine lv_iload_n C.1 C.2.1 (kd kX8_addShip_0 6 rfl) rfl (lv_at hl 3 rfl) ?_
  refine lv_iload C.1 C.2.1 (kd kX8_addShip_0 7 rfl) (lv_at hl 4 rfl) ?_
  obtain ⟨r2_, σ2, hσ2, hf⟩ := fcall_some hf
  refine fl_i hS (fl_runV (As := [.int x1, .int x2, .int x3, .int x4]) (rest := [.ref (Γ.1 164)]) C hP rfl (Nat.le_of_ble_eq_true rfl) rfl (m_X8_addsShip C.2.2.2.2.2.2.2.2 l  hσ2) (fgV tw_964 tw_966 tw_21 tw_75 tw_967) hd_X8_addsShip ⟨rfl, rfl, Nat.le_of_ble_eq_true rfl, Nat.le_of_ble_eq_true rfl⟩ rfl hl.1 rfl (Nat.le_of_ble_eq_true rfl) (kd kX8_addShip_0 8 rfl)) (fun H locs hP hS => ?_)
  obtain ⟨r3_, σ3, hσ3, hf⟩ := fcall_some hf
  refine fl_i hS (fl_runV (As := [.int r2_]) (rest := []) C hP rfl (Nat.le_of_ble_eq_true rfl) rfl (m_X8_kept C.2.2.2.2.2.2.2.2 l  hσ3) (fgV tw_971 tw_973 tw_22 tw_75 tw_974) hd_X8_kept ⟨rfl, rfl, Nat.le_of_ble_eq_true rfl, Nat.le_of_ble_eq_true rfl⟩ rfl hl.1 rfl (Nat.le_of_ble_eq_true rfl) (kd kX8_addShip_0 9 rfl)) (fun H locs hP hS => ?_)
  exact fl_iret C hP hS hf (kd kX8_addShip_0 10 rfl)
def f_X8_addBerth (x1 : Int32) (x2 : Int32) (σ : fS) : Option (Int32 × fS) := fcallv (f_X8_remembers σ) (fun σ1 => fcall (f_X8_addsBerth x1 x2 σ1) (fun r2_ σ2 => fcall (f_X8_kept r2_ σ2) (fun r3_ σ3 => some (r3_, σ3))))
set_option maxRecDepth 100000 in
set_option maxHeartbeats 4000000 in
theorem m_X8_addBerth {Γ : fGm} (hI : fI Γ) (l : Launch) {x1 : Int32} {x2 : Int32} {σ : fS} {r : Int32} {σ' : fS} (hf : f_X8_addBerth x1 x2 σ = some (r, σ')) : Met l yX8_addBerth (.code yX8_addBerth cX8_addBerth 3 (some .int) :: lw_g) ({ frames := 3, cells := 0, slots := 0, locals := 64 } : Room) (fPre Γ [.ref (Γ.1 164), .int x1, .int x2] σ) (fQi Γ r σ') 0 0 (fAd Γ) := by
  refine fl_enter (own := RX8) hI (by decide +kernel) rfl (Nat.le_of_ble_eq_true rfl) ?_
  intro p e s m args below meth c ls C hl hP hS
  have hl : lv_has ls 3 [(0, .ref (Γ.1 164)), (1, .int x1), (2, .int x2)] := hl
  obtain ⟨H, hH⟩ : ∃ H, H = s.heap := ⟨_, rfl⟩
  obtain ⟨locs, hL⟩ : ∃ L : List Loc, L = [] := ⟨_, rfl⟩
  have hP : fH Γ σ H := by rw [hH]; exact hP
  have hS : va_S (fAd Γ) s.heap H locs := by rw [hH, hL]; exact hS
  suffices hw : W p l e ({ frames := 3, cells := 0, slots := 0, locals := 64 } : Room) s m args below meth c H locs 0 0 (MQ below (fQi Γ r σ') args s 0 0 (fAd Γ)) (F0 m 0 ls []) by rw [hH, hL] at hw; exact hw
  unfold f_X8_addBerth at hf
  refine lv_aload_n C.1 C.2.1 (kd kX8_addBerth_0 0 rfl) rfl (lv_at hl 0 rfl) ?_
  obtain ⟨σ1, hσ1, hf⟩ := fcallv_some hf
  refine fl_v hS (fl_runV (As := []) (rest := []) C hP rfl (Nat.le_of_ble_eq_true rfl) rfl (m_X8_remembers C.2.2.2.2.2.2.2.2 l  hσ1) (fgV tw_960 tw_962 tw_20 tw_75 tw_963) hd_X8_remembers ⟨rfl, rfl, Nat.le_of_ble_eq_true rfl, Nat.le_of_ble_eq_true rfl⟩ rfl hl.1 rfl (Nat.le_of_ble_eq_true rfl) (kd kX8_addBerth_0 1 rfl)) (fun H locs hP hS => ?_)
  refine lv_aload_n C.1 C.2.1 (kd kX8_addBerth_0 2 rfl) rfl (lv_at hl 0 rfl) ?_
  refine lv_aload_n C.1 C.2.1 (kd kX8_addBerth_0 3 rfl) rfl (lv_at hl 0 rfl) ?_
  refine lv_iload_n C.1 C.2.1 (kd kX8_addBerth_0 4 rfl) rfl (lv_at hl 1 rfl) ?_
  refine lv_iload_n C.1 C.2.1 (kd kX8_addBerth_0 5 rfl) rfl (lv_at hl 2 rfl) ?_
  obtain ⟨r2_, σ2, hσ2, hf⟩ := fcall_some hf
  refine fl_i hS (fl_runV (As := [.int x1, .int x2]) (rest := [.ref (Γ.1 164)]) C hP rfl (Nat.le_of_ble_eq_true rfl) rfl (m_X8_addsBerth C.2.2.2.2.2.2.2.2 l  hσ2) (fgV tw_982 tw_984 tw_23 tw_75 tw_985) hd_X8_addsBerth ⟨rfl, rfl, Nat.le_of_ble_eq_true rfl, Nat.le_of_ble_eq_true rfl⟩ rfl hl.1 rfl (Nat.le_of_ble_eq_true rfl) (kd kX8_addBerth_0 6 rfl)) (fun H locs hP hS => ?_)
  obtain ⟨r3_, σ3, hσ3, hf⟩ := fcall_some hf
  refine fl_i hS (fl_runV (As := [.int r2_]) (rest := []) C hP rfl (Nat.le_of_ble_eq_true rfl) rfl (m_X8_kept C.2.2.2.2.2.2.2.2 l  hσ3) (fgV tw_971 tw_973 tw_22 tw_75 tw_974) hd_X8_kept ⟨rfl, rfl, Nat.le_of_ble_eq_true rfl, Nat.le_of_ble_eq_true rfl⟩ rfl hl.1 rfl (Nat.le_of_ble_eq_true rfl) (kd kX8_addBerth_0 7 rfl)) (fun H locs hP hS => ?_)
  exact fl_iret C hP hS hf (kd kX8_addBerth_0 8 rfl)
def f_X8_addCrossing (x1 : Int32) (x2 : Int32) (x3 : Int32) (x4 : Int32) (σ : fS) : Option (Int32 × fS) := fcallv (f_X8_remembers σ) (fun σ1 => fcall (f_X8_addsCrossing x1 x2 x3 x4 σ1) (fun r2_ σ2 => fcall (f_X8_kept r2_ σ2) (fun r3_ σ3 => some (r3_, σ3))))
set_option maxRecDepth 100000 in
set_option maxHeartbeats 4000000 in
theorem m_X8_addCrossing {Γ : fGm} (hI : fI Γ) (l : Launch) {x1 : Int32} {x2 : Int32} {x3 : Int32} {x4 : Int32} {σ : fS} {r : Int32} {σ' : fS} (hf : f_X8_addCrossing x1 x2 x3 x4 σ = some (r, σ')) : Met l yX8_addCrossing (.code yX8_addCrossing cX8_addCrossing 5 (some .int) :: lw_g) ({ frames := 3, cells := 0, slots := 0, locals := 68 } : Room) (fPre Γ [.ref (Γ.1 164), .int x1, .int x2, .int x3, .int x4] σ) (fQi Γ r σ') 0 0 (fAd Γ) := by
  refine fl_enter (own := RX8) hI (by decide +kernel) rfl (Nat.le_of_ble_eq_true rfl) ?_
  intro p e s m args below meth c ls C hl hP hS
  have hl : lv_has ls 5 [(0, .ref (Γ.1 164)), (1, .int x1), (2, .int x2), (3, .int x3), (4, .int x4)] := hl
  obtain ⟨H, hH⟩ : ∃ H, H = s.heap := ⟨_, rfl⟩
  obtain ⟨locs, hL⟩ : ∃ L : List Loc, L = [] := ⟨_, rfl⟩
  have hP : fH Γ σ H := by rw [hH]; exact hP
  have hS : va_S (fAd Γ) s.heap H locs := by rw [hH, hL]; exact hS
  suffices hw : W p l e ({ frames := 3, cells := 0, slots := 0, locals := 68 } : Room) s m args below meth c H locs 0 0 (MQ below (fQi Γ r σ') args s 0 0 (fAd Γ)) (F0 m 0 ls []) by rw [hH, hL] at hw; exact hw
  unfold f_X8_addCrossing at hf
  refine lv_aload_n C.1 C.2.1 (kd kX8_addCrossing_0 0 rfl) rfl (lv_at hl 0 rfl) ?_
  obtain ⟨σ1, hσ1, hf⟩ := fcallv_some hf
  refine fl_v hS (fl_runV (As := []) (rest := []) C hP rfl (Nat.le_of_ble_eq_true rfl) rfl (m_X8_remembers C.2.2.2.2.2.2.2.2 l  hσ1) (fgV tw_960 tw_962 tw_20 tw_75 tw_963) hd_X8_remembers ⟨rfl, rfl, Nat.le_of_ble_eq_true rfl, Nat.le_of_ble_eq_true rfl⟩ rfl hl.1 rfl (Nat.le_of_ble_eq_true rfl) (kd kX8_addCrossing_0 1 rfl)) (fun H locs hP hS => ?_)
  refine lv_aload_n C.1 C.2.1 (kd kX8_addCrossing_0 2 rfl) rfl (lv_at hl 0 rfl) ?_
  refine lv_aload_n C.1 C.2.1 (kd kX8_addCrossing_0 3 rfl) rfl (lv_at hl 0 rfl) ?_
  refine lv_iload_n C.1 C.2.1 (kd kX8_addCrossing_0 4 rfl) rfl (lv_at hl 1 rfl) ?_
  refine lv_iload_n C.1 C.2.1 (kd kX8_addCrossing_0 5 rfl) rfl (lv_at hl 2 rfl) ?_
  refine lv_iload_n C.1 C.2.1 (kd kX8_addCrossing_0 6 rfl) rfl (lv_at hl 3 rfl) ?_
  refine lv_iload C.1 C.2.1 (kd kX8_addCrossing_0 7 rfl) (lv_at hl 4 rfl) ?_
  obtain ⟨r2_, σ2, hσ2, hf⟩ := fcall_some hf
  refine fl_i hS (fl_runV (As := [.int x1, .int x2, .int x3, .int x4]) (rest := [.ref (Γ.1 164)]) C hP rfl (Nat.le_of_ble_eq_true rfl) rfl (m_X8_addsCrossing C.2.2.2.2.2.2.2.2 l  hσ2) (fgV tw_990 tw_992 tw_24 tw_75 tw_993) hd_X8_addsCrossing ⟨rfl, rfl, Nat.le_of_ble_eq_true rfl, Nat.le_of_ble_eq_true rfl⟩ rfl hl.1 rfl (Nat.le_of_ble_eq_true rfl) (kd kX8_addCrossing_0 8 rfl)) (fun H locs hP hS => ?_)
  obtain ⟨r3_, σ3, hσ3, hf⟩ := fcall_some hf
  refine fl_i hS (fl_runV (As := [.int r2_]) (rest := []) C hP rfl (Nat.le_of_ble_eq_true rfl) rfl (m_X8_kept C.2.2.2.2.2.2.2.2 l  hσ3) (fgV tw_971 tw_973 tw_22 tw_75 tw_974) hd_X8_kept ⟨rfl, rfl, Nat.le_of_ble_eq_true rfl, Nat.le_of_ble_eq_true rfl⟩ rfl hl.1 rfl (Nat.le_of_ble_eq_true rfl) (kd kX8_addCrossing_0 9 rfl)) (fun H locs hP hS => ?_)
  exact fl_iret C hP hS hf (kd kX8_addCrossing_0 10 rfl)
def f_X8_addVehicle (x1 : Int32) (x2 : Int32) (x3 : Int32) (σ : fS) : Option (Int32 × fS) := fcallv (f_X8_remembers σ) (fun σ1 => fcall (f_X8_addsVehicle x1 x2 x3 σ1) (fun r2_ σ2 => fcall (f_X8_kept r2_ σ2) (fun r3_ σ3 => some (r3_, σ3))))
set_option maxRecDepth 100000 in
set_option maxHeartbeats 4000000 in
theorem m_X8_addVehicle {Γ : fGm} (hI : fI Γ) (l : Launch) {x1 : Int32} {x2 : Int32} {x3 : Int32} {σ : fS} {r : Int32} {σ' : fS} (hf : f_X8_addVehicle x1 x2 x3 σ = some (r, σ')) : Met l yX8_addVehicle (.code yX8_addVehicle cX8_addVehicle 4 (some .int) :: lw_g) ({ frames := 3, cells := 0, slots := 0, locals := 67 } : Room) (fPre Γ [.ref (Γ.1 164), .int x1, .int x2, .int x3] σ) (fQi Γ r σ') 0 0 (fAd Γ) := by
  refine fl_enter (own := RX8) hI (by decide +kernel) rfl (Nat.le_of_ble_eq_true rfl) ?_
  intro p e s m args below meth c ls C hl hP hS
  have hl : lv_has ls 4 [(0, .ref (Γ.1 164)), (1, .int x1), (2, .int x2), (3, .int x3)] := hl
  obtain ⟨H, hH⟩ : ∃ H, H = s.heap := ⟨_, rfl⟩
  obtain ⟨locs, hL⟩ : ∃ L : List Loc, L = [] := ⟨_, rfl⟩
  have hP : fH Γ σ H := by rw [hH]; exact hP
  have hS : va_S (fAd Γ) s.heap H locs := by rw [hH, hL]; exact hS
  suffices hw : W p l e ({ frames := 3, cells := 0, slots := 0, locals := 67 } : Room) s m args below meth c H locs 0 0 (MQ below (fQi Γ r σ') args s 0 0 (fAd Γ)) (F0 m 0 ls []) by rw [hH, hL] at hw; exact hw
  unfold f_X8_addVehicle at hf
  refine lv_aload_n C.1 C.2.1 (kd kX8_addVehicle_0 0 rfl) rfl (lv_at hl 0 rfl) ?_
  obtain ⟨σ1, hσ1, hf⟩ := fcallv_some hf
  refine fl_v hS (fl_runV (As := []) (rest := []) C hP rfl (Nat.le_of_ble_eq_true rfl) rfl (m_X8_remembers C.2.2.2.2.2.2.2.2 l  hσ1) (fgV tw_960 tw_962 tw_20 tw_75 tw_963) hd_X8_remembers ⟨rfl, rfl, Nat.le_of_ble_eq_true rfl, Nat.le_of_ble_eq_true rfl⟩ rfl hl.1 rfl (Nat.le_of_ble_eq_true rfl) (kd kX8_addVehicle_0 1 rfl)) (fun H locs hP hS => ?_)
  refine lv_aload_n C.1 C.2.1 (kd kX8_addVehicle_0 2 rfl) rfl (lv_at hl 0 rfl) ?_
  refine lv_aload_n C.1 C.2.1 (kd kX8_addVehicle_0 3 rfl) rfl (lv_at hl 0 rfl) ?_
  refine lv_iload_n C.1 C.2.1 (kd kX8_addVehicle_0 4 rfl) rfl (lv_at hl 1 rfl) ?_
  refine lv_iload_n C.1 C.2.1 (kd kX8_addVehicle_0 5 rfl) rfl (lv_at hl 2 rfl) ?_
  refine lv_iload_n C.1 C.2.1 (kd kX8_addVehicle_0 6 rfl) rfl (lv_at hl 3 rfl) ?_
  obtain ⟨r2_, σ2, hσ2, hf⟩ := fcall_some hf
  refine fl_i hS (fl_runV (As := [.int x1, .int x2, .int x3]) (rest := [.ref (Γ.1 164)]) C hP rfl (Nat.le_of_ble_eq_true rfl) rfl (m_X8_addsVehicle C.2.2.2.2.2.2.2.2 l  hσ2) (fgV tw_1006 tw_1008 tw_27 tw_75 tw_1009) hd_X8_addsVehicle ⟨rfl, rfl, Nat.le_of_ble_eq_true rfl, Nat.le_of_ble_eq_true rfl⟩ rfl hl.1 rfl (Nat.le_of_ble_eq_true rfl) (kd kX8_addVehicle_0 7 rfl)) (fun H locs hP hS => ?_)
  obtain ⟨r3_, σ3, hσ3, hf⟩ := fcall_some hf
  refine fl_i hS (fl_runV (As := [.int r2_]) (rest := []) C hP rfl (Nat.le_of_ble_eq_true rfl) rfl (m_X8_kept C.2.2.2.2.2.2.2.2 l  hσ3) (fgV tw_971 tw_973 tw_22 tw_75 tw_974) hd_X8_kept ⟨rfl, rfl, Nat.le_of_ble_eq_true rfl, Nat.le_of_ble_eq_true rfl⟩ rfl hl.1 rfl (Nat.le_of_ble_eq_true rfl) (kd kX8_addVehicle_0 8 rfl)) (fun H locs hP hS => ?_)
  exact fl_iret C hP hS hf (kd kX8_addVehicle_0 9 rfl)
def f_X8_addConnection (x1 : Int32) (x2 : Int32) (x3 : Int32) (x4 : Int32) (σ : fS) : Option (Int32 × fS) := fcallv (f_X8_remembers σ) (fun σ1 => fcall (f_X8_addsConnection x1 x2 x3 x4 σ1) (fun r2_ σ2 => fcall (f_X8_kept r2_ σ2) (fun r3_ σ3 => some (r3_, σ3))))
set_option maxRecDepth 100000 in
set_option maxHeartbeats 4000000 in
theorem m_X8_addConnection {Γ : fGm} (hI : fI Γ) (l : Launch) {x1 : Int32} {x2 : Int32} {x3 : Int32} {x4 : Int32} {σ : fS} {r : Int32} {σ' : fS} (hf : f_X8_addConnection x1 x2 x3 x4 σ = some (r, σ')) : Met l yX8_addConnection (.code yX8_addConnection cX8_addConnection 5 (some .int) :: lw_g) ({ frames := 3, cells := 0, slots := 0, locals := 68 } : Room) (fPre Γ [.ref (Γ.1 164), .int x1, .int x2, .int x3, .int x4] σ) (fQi Γ r σ') 0 0 (fAd Γ) := by
  refine fl_enter (own := RX8) hI (by decide +kernel) rfl (Nat.le_of_ble_eq_true rfl) ?_
  intro p e s m args below meth c ls C hl hP hS
  have hl : lv_has ls 5 [(0, .ref (Γ.1 164)), (1, .int x1), (2, .int x2), (3, .int x3), (4, .int x4)] := hl
  obtain ⟨H, hH⟩ : ∃ H, H = s.heap := ⟨_, rfl⟩
  obtain ⟨locs, hL⟩ : ∃ L : List Loc, L = [] := ⟨_, rfl⟩
  have hP : fH Γ σ H := by rw [hH]; exact hP
  have hS : va_S (fAd Γ) s.heap H locs := by rw [hH, hL]; exact hS
  suffices hw : W p l e ({ frames := 3, cells := 0, slots := 0, locals := 68 } : Room) s m args below meth c H locs 0 0 (MQ below (fQi Γ r σ') args s 0 0 (fAd Γ)) (F0 m 0 ls []) by rw [hH, hL] at hw; exact hw
  unfold f_X8_addConnection at hf
  refine lv_aload_n C.1 C.2.1 (kd kX8_addConnection_0 0 rfl) rfl (lv_at hl 0 rfl) ?_
  obtain ⟨σ1, hσ1, hf⟩ := fcallv_some hf
  refine fl_v hS (fl_runV (As := []) (rest := []) C hP rfl (Nat.le_of_ble_eq_true rfl) rfl (m_X8_remembers C.2.2.2.2.2.2.2.2 l  hσ1) (fgV tw_960 tw_962 tw_20 tw_75 tw_963) hd_X8_remembers ⟨rfl, rfl, Nat.le_of_ble_eq_true rfl, Nat.le_of_ble_eq_true rfl⟩ rfl hl.1 rfl (Nat.le_of_ble_eq_true rfl) (kd kX8_addConnection_0 1 rfl)) (fun H locs hP hS => ?_)
  refine lv_aload_n C.1 C.2.1 (kd kX8_addConnection_0 2 rfl) rfl (lv_at hl 0 rfl) ?_
  refine lv_aload_n C.1 C.2.1 (kd kX8_addConnection_0 3 rfl) rfl (lv_at hl 0 rfl) ?_
  refine lv_iload_n C.1 C.2.1 (kd kX8_addConnection_0 4 rfl) rfl (lv_at hl 1 rfl) ?_
  refine lv_iload_n C.1 C.2.1 (kd kX8_addConnection_0 5 rfl) rfl (lv_at hl 2 rfl) ?_
  refine lv_iload_n C.1 C.2.1 (kd kX8_addConnection_0 6 rfl) rfl (lv_at hl 3 rfl) ?_
  refine lv_iload C.1 C.2.1 (kd kX8_addConnection_0 7 rfl) (lv_at hl 4 rfl) ?_
  obtain ⟨r2_, σ2, hσ2, hf⟩ := fcall_some hf
  refine fl_i hS (fl_runV (As := [.int x1, .int x2, .int x3, .int x4]) (rest := [.ref (Γ.1 164)]) C hP rfl (Nat.le_of_ble_eq_true rfl) rfl (m_X8_addsConnection C.2.2.2.2.2.2.2.2 l  hσ2) (fgV tw_1018 tw_1020 tw_29 tw_75 tw_1021) hd_X8_addsConnection ⟨rfl, rfl, Nat.le_of_ble_eq_true rfl, Nat.le_of_ble_eq_true rfl⟩ rfl hl.1 rfl (Nat.le_of_ble_eq_true rfl) (kd kX8_addConnection_0 8 rfl)) (fun H locs hP hS => ?_)
  obtain ⟨r3_, σ3, hσ3, hf⟩ := fcall_some hf
  refine fl_i hS (fl_runV (As := [.int r2_]) (rest := []) C hP rfl (Nat.le_of_ble_eq_true rfl) rfl (m_X8_kept C.2.2.2.2.2.2.2.2 l  hσ3) (fgV tw_971 tw_973 tw_22 tw_75 tw_974) hd_X8_kept ⟨rfl, rfl, Nat.le_of_ble_eq_true rfl, Nat.le_of_ble_eq_true rfl⟩ rfl hl.1 rfl (Nat.le_of_ble_eq_true rfl) (kd kX8_addConnection_0 9 rfl)) (fun H locs hP hS => ?_)
  exact fl_iret C hP hS hf (kd kX8_addConnection_0 10 rfl)
def f_X8_cuts_b110 (K6 : Int32 → Int32 → Int32 → Int32 → Int32 → Int32 → fS → Option (fS)) (v1 : Int32) (v2 : Int32) (v3 : Int32) (v4 : Int32) (v5 : Int32) (v6 : Int32) (σ : fS) : Option (fS) := K6 (v1) (v2) (v3) (v4) (v5) ((v6 + (1 : Int32))) σ
set_option maxRecDepth 100000 in
set_option maxHeartbeats 4000000 in
theorem w_X8_cuts_b110 {σ' : fS} {K6 : Int32 → Int32 → Int32 → Int32 → Int32 → Int32 → fS → Option (fS)}  (C : fC Γ p s m args meth c cX8_cuts none RX8 9) (hK6 : ∀ (v1 : Int32) (v2 : Int32) (v3 : Int32) (v4 : Int32) (v5 : Int32) (v6 : Int32) (σ : fS) (H : Heap) (locs : List Loc) (ls : Array Slot), K6 v1 v2 v3 v4 v5 v6 σ = some σ' → fH Γ σ H → va_S (fAd Γ) s.heap H locs → lv_has ls 9 [(0, .ref (Γ.1 164)), (1, .int v1), (2, .int v2), (3, .int v3), (4, .int v4), (5, .int v5), (6, .int v6)] → W p l e ({ frames := 0, cells := 0, slots := 0, locals := 0 } : Room) s m args below meth c H locs 0 0 (MQ below (fQv Γ σ') args s 0 0 (fAd Γ)) (F0 m 6 ls [])) : ∀ (v1 : Int32) (v2 : Int32) (v3 : Int32) (v4 : Int32) (v5 : Int32) (v6 : Int32) (σ : fS) (H : Heap) (locs : List Loc) (ls : Array Slot), f_X8_cuts_b110 K6 v1 v2 v3 v4 v5 v6 σ = some σ' → fH Γ σ H → va_S (fAd Γ) s.heap H locs → lv_has ls 9 [(0, .ref (Γ.1 164)), (1, .int v1), (2, .int v2), (3, .int v3), (4, .int v4), (5, .int v5), (6, .int v6)] → W p l e ({ frames := 0, cells := 0, slots := 0, locals := 0 } : Room) s m args below meth c H locs 0 0 (MQ below (fQv Γ σ') args s 0 0 (fAd Γ)) (F0 m 110 ls []) := by
  intro v1 v2 v3 v4 v5 v6 σ H locs ls hf hP hS hl
  unfold f_X8_cuts_b110 at hf
  refine lv_iinc (v := (v6 + (1 : Int32))) (lv' := [(6, .int (v6 + (1 : Int32))), (0, .ref (Γ.1 164)), (1, .int v1), (2, .int v2), (3, .int v3), (4, .int v4), (5, .int v5)]) C.1 C.2.1 (kd kX8_cuts_1 6 rfl) hl (k := 6) rfl rfl (Nat.le_of_ble_eq_true rfl) rfl (fun ls hl => ?_)
  refine lv_goto (tgt := 6) C.1 C.2.1 (kd kX8_cuts_1 7 rfl) (by decide) ?_
  exact hK6 (v1) (v2) (v3) (v4) (v5) ((v6 + (1 : Int32))) σ H locs ls hf hP hS (lv_sub hl [1, 2, 3, 4, 5, 6, 0] rfl)
def f_X8_cuts_b106 (K6 : Int32 → Int32 → Int32 → Int32 → Int32 → Int32 → fS → Option (fS)) (v1 : Int32) (v2 : Int32) (v3 : Int32) (v4 : Int32) (v5 : Int32) (v6 : Int32) (s0 : Int32) (s1 : Int32) (σ : fS) : Option (fS) := fb s1 277 (fL (fu σ 165 s1.toNatClampNeg s0) (fun σ1 => f_X8_cuts_b110 K6 (v1) (v2) (v3) (v4) ((v5 + (1 : Int32))) (v6) σ1))
set_option maxRecDepth 100000 in
set_option maxHeartbeats 4000000 in
theorem w_X8_cuts_b106 {σ' : fS} {K6 : Int32 → Int32 → Int32 → Int32 → Int32 → Int32 → fS → Option (fS)}  (C : fC Γ p s m args meth c cX8_cuts none RX8 9) (hK6 : ∀ (v1 : Int32) (v2 : Int32) (v3 : Int32) (v4 : Int32) (v5 : Int32) (v6 : Int32) (σ : fS) (H : Heap) (locs : List Loc) (ls : Array Slot), K6 v1 v2 v3 v4 v5 v6 σ = some σ' → fH Γ σ H → va_S (fAd Γ) s.heap H locs → lv_has ls 9 [(0, .ref (Γ.1 164)), (1, .int v1), (2, .int v2), (3, .int v3), (4, .int v4), (5, .int v5), (6, .int v6)] → W p l e ({ frames := 0, cells := 0, slots := 0, locals := 0 } : Room) s m args below meth c H locs 0 0 (MQ below (fQv Γ σ') args s 0 0 (fAd Γ)) (F0 m 6 ls [])) : ∀ (v1 : Int32) (v2 : Int32) (v3 : Int32) (v4 : Int32) (v5 : Int32) (v6 : Int32) (s0 : Int32) (s1 : Int32) (σ : fS) (H : Heap) (locs : List Loc) (ls : Array Slot), f_X8_cuts_b106 K6 v1 v2 v3 v4 v5 v6 s0 s1 σ = some σ' → fH Γ σ H → va_S (fAd Γ) s.heap H locs → lv_has ls 9 [(0, .ref (Γ.1 164)), (1, .int v1), (2, .int v2), (3, .int v3), (4, .int v4), (5, .int v5), (6, .int v6)] → W p l e ({ frames := 0, cells := 0, slots := 0, locals := 0 } : Room) s m args below meth c H locs 0 0 (MQ below (fQv Γ σ') args s 0 0 (fAd Γ)) (F0 m 106 ls [.int s0, .int s1, .ref (Γ.1 165)]) := by
  intro v1 v2 v3 v4 v5 v6 s0 s1 σ H locs ls hf hP hS hl
  unfold f_X8_cuts_b106 at hf
  obtain ⟨hq, hf⟩ := fb_some hf
  obtain ⟨σ1, eσ1, hf⟩ := fL_some hf
  refine fl_iast C hP hS rfl hq (kd kX8_cuts_1 4 rfl) (fun H locs hP hS => ?_)
  have hP : fH Γ σ1 H := by rw [eσ1]; exact hP
  refine lv_iinc (v := (v5 + (1 : Int32))) (lv' := [(5, .int (v5 + (1 : Int32))), (0, .ref (Γ.1 164)), (1, .int v1), (2, .int v2), (3, .int v3), (4, .int v4), (6, .int v6)]) C.1 C.2.1 (kd kX8_cuts_1 5 rfl) hl (k := 5) rfl rfl (Nat.le_of_ble_eq_true rfl) rfl (fun ls hl => ?_)
  exact w_X8_cuts_b110 C hK6 (v1) (v2) (v3) (v4) ((v5 + (1 : Int32))) (v6) σ1 H locs ls hf hP hS (lv_sub hl [1, 2, 3, 4, 5, 0, 6] rfl)
def f_X8_cuts_b40 (K6 : Int32 → Int32 → Int32 → Int32 → Int32 → Int32 → fS → Option (fS)) : Nat → Int32 → Int32 → Int32 → Int32 → Int32 → Int32 → Int32 → Int32 → fS → Option (fS)
  | 0, _, _, _, _, _, _, _, _, _ => none
  | n_ + 1, v1, v2, v3, v4, v5, v6, v7, v8, σ => (if v3 ≤ v8 then (if v7 ≤ v4 then f_X8_cuts_b106 K6 (v1) (v2) (v3) (v4) (v5) (v6) (v7) ((v2 + (v3 * v5))) σ else f_X8_cuts_b106 K6 (v1) (v2) (v3) (v4) (v5) (v6) ((v7 - (1 : Int32))) ((v2 + (v3 * v5))) σ) else fb ((v2 + (v3 * v6)) + v8) 277 (fb ((v2 + (v3 * v5)) + v8) 277 (fL (fu σ 165 ((v2 + (v3 * v5)) + v8).toNatClampNeg (σ 165 ((v2 + (v3 * v6)) + v8).toNatClampNeg)) (fun σ1 => (fun v1 v2 v3 v4 v5 v6 v7 v8 σ => f_X8_cuts_b40 K6 n_ v1 v2 v3 v4 v5 v6 v7 v8 σ) (v1) (v2) (v3) (v4) (v5) (v6) (v7) ((v8 + (1 : Int32))) σ1))))
set_option maxRecDepth 100000 in
set_option maxHeartbeats 4000000 in
theorem w_X8_cuts_b40 {σ' : fS} {K6 : Int32 → Int32 → Int32 → Int32 → Int32 → Int32 → fS → Option (fS)}  (C : fC Γ p s m args meth c cX8_cuts none RX8 9) (hK6 : ∀ (v1 : Int32) (v2 : Int32) (v3 : Int32) (v4 : Int32) (v5 : Int32) (v6 : Int32) (σ : fS) (H : Heap) (locs : List Loc) (ls : Array Slot), K6 v1 v2 v3 v4 v5 v6 σ = some σ' → fH Γ σ H → va_S (fAd Γ) s.heap H locs → lv_has ls 9 [(0, .ref (Γ.1 164)), (1, .int v1), (2, .int v2), (3, .int v3), (4, .int v4), (5, .int v5), (6, .int v6)] → W p l e ({ frames := 0, cells := 0, slots := 0, locals := 0 } : Room) s m args below meth c H locs 0 0 (MQ below (fQv Γ σ') args s 0 0 (fAd Γ)) (F0 m 6 ls [])) : ∀ (n_ : Nat) (v1 : Int32) (v2 : Int32) (v3 : Int32) (v4 : Int32) (v5 : Int32) (v6 : Int32) (v7 : Int32) (v8 : Int32) (σ : fS) (H : Heap) (locs : List Loc) (ls : Array Slot), f_X8_cuts_b40 K6 n_ v1 v2 v3 v4 v5 v6 v7 v8 σ = some σ' → fH Γ σ H → va_S (fAd Γ) s.heap H locs → lv_has ls 9 [(0, .ref (Γ.1 164)), (1, .int v1), (2, .int v2), (3, .int v3), (4, .int v4), (5, .int v5), (6, .int v6), (7, .int v7), (8, .int v8)] → W p l e ({ frames := 0, cells := 0, slots := 0, locals := 0 } : Room) s m args below meth c H locs 0 0 (MQ below (fQv Γ σ') args s 0 0 (fAd Γ)) (F0 m 40 ls []) := by
  intro n_
  induction n_ with
  | zero =>
    intro v1 v2 v3 v4 v5 v6 v7 v8 σ H locs ls hf
    cases hf
  | succ n_ ih =>
    intro v1 v2 v3 v4 v5 v6 v7 v8 σ H locs ls hf hP hS hl
    have hf : (if v3 ≤ v8 then (if v7 ≤ v4 then f_X8_cuts_b106 K6 (v1) (v2) (v3) (v4) (v5) (v6) (v7) ((v2 + (v3 * v5))) σ else f_X8_cuts_b106 K6 (v1) (v2) (v3) (v4) (v5) (v6) ((v7 - (1 : Int32))) ((v2 + (v3 * v5))) σ) else fb ((v2 + (v3 * v6)) + v8) 277 (fb ((v2 + (v3 * v5)) + v8) 277 (fL (fu σ 165 ((v2 + (v3 * v5)) + v8).toNatClampNeg (σ 165 ((v2 + (v3 * v6)) + v8).toNatClampNeg)) (fun σ1 => (fun v1 v2 v3 v4 v5 v6 v7 v8 σ => f_X8_cuts_b40 K6 n_ v1 v2 v3 v4 v5 v6 v7 v8 σ) (v1) (v2) (v3) (v4) (v5) (v6) (v7) ((v8 + (1 : Int32))) σ1)))) = some σ' := hf
    have hK40 := ih
    refine lv_iload C.1 C.2.1 (kd kX8_cuts_0 24 rfl) (lv_at hl 8 rfl) ?_
    refine lv_iload_n C.1 C.2.1 (kd kX8_cuts_0 25 rfl) rfl (lv_at hl 3 rfl) ?_
    refine lv_icmp_ge (tgt := 80) C.1 C.2.1 (kd kX8_cuts_0 26 rfl) (by decide) (fun q => ?_) (fun q => ?_)
    · have hf := fif_pos q hf
      refine lv_aload_n C.1 C.2.1 (kd kX8_cuts_0 49 rfl) rfl (lv_at hl 0 rfl) ?_
      refine fl_get (j := 0) (v := .ref (Γ.1 165)) C hP rfl (Nat.le_of_ble_eq_true rfl) rfl inX8 (Nat.le_of_ble_eq_true rfl) tw_862 rfl (kd kX8_cuts_0 50 rfl) ?_
      refine lv_iload_n C.1 C.2.1 (kd kX8_cuts_0 51 rfl) rfl (lv_at hl 2 rfl) ?_
      refine lv_iload_n C.1 C.2.1 (kd kX8_cuts_0 52 rfl) rfl (lv_at hl 3 rfl) ?_
      refine lv_iload C.1 C.2.1 (kd kX8_cuts_0 53 rfl) (lv_at hl 5 rfl) ?_
      refine lv_imul C.1 C.2.1 (kd kX8_cuts_0 54 rfl) ?_
      refine lv_iadd C.1 C.2.1 (kd kX8_cuts_0 55 rfl) ?_
      refine lv_iload C.1 C.2.1 (kd kX8_cuts_0 56 rfl) (lv_at hl 7 rfl) ?_
      refine lv_iload C.1 C.2.1 (kd kX8_cuts_0 57 rfl) (lv_at hl 4 rfl) ?_
      refine lv_icmp_le (tgt := 104) C.1 C.2.1 (kd kX8_cuts_0 58 rfl) (by decide) (fun q => ?_) (fun q => ?_)
      · have hf := fif_pos q hf
        refine lv_iload C.1 C.2.1 (kd kX8_cuts_1 3 rfl) (lv_at hl 7 rfl) ?_
        exact w_X8_cuts_b106 C hK6 (v1) (v2) (v3) (v4) (v5) (v6) (v7) ((v2 + (v3 * v5))) σ H locs ls hf hP hS (lv_sub hl [0, 1, 2, 3, 4, 5, 6] rfl)
      have hf := fif_neg q hf
      refine lv_iload C.1 C.2.1 (kd kX8_cuts_0 59 rfl) (lv_at hl 7 rfl) ?_
      refine lv_iconst (v := (1 : Int32)) C.1 C.2.1 (kd kX8_cuts_1 0 rfl) (by decide) ?_
      refine lv_isub C.1 C.2.1 (kd kX8_cuts_1 1 rfl) ?_
      refine lv_goto (tgt := 106) C.1 C.2.1 (kd kX8_cuts_1 2 rfl) (by decide) ?_
      exact w_X8_cuts_b106 C hK6 (v1) (v2) (v3) (v4) (v5) (v6) ((v7 - (1 : Int32))) ((v2 + (v3 * v5))) σ H locs ls hf hP hS (lv_sub hl [0, 1, 2, 3, 4, 5, 6] rfl)
    have hf := fif_neg q hf
    refine lv_aload_n C.1 C.2.1 (kd kX8_cuts_0 27 rfl) rfl (lv_at hl 0 rfl) ?_
    refine fl_get (j := 0) (v := .ref (Γ.1 165)) C hP rfl (Nat.le_of_ble_eq_true rfl) rfl inX8 (Nat.le_of_ble_eq_true rfl) tw_862 rfl (kd kX8_cuts_0 28 rfl) ?_
    refine lv_iload_n C.1 C.2.1 (kd kX8_cuts_0 29 rfl) rfl (lv_at hl 2 rfl) ?_
    refine lv_iload_n C.1 C.2.1 (kd kX8_cuts_0 30 rfl) rfl (lv_at hl 3 rfl) ?_
    refine lv_iload C.1 C.2.1 (kd kX8_cuts_0 31 rfl) (lv_at hl 5 rfl) ?_
    refine lv_imul C.1 C.2.1 (kd kX8_cuts_0 32 rfl) ?_
    refine lv_iadd C.1 C.2.1 (kd kX8_cuts_0 33 rfl) ?_
    refine lv_iload C.1 C.2.1 (kd kX8_cuts_0 34 rfl) (lv_at hl 8 rfl) ?_
    refine lv_iadd C.1 C.2.1 (kd kX8_cuts_0 35 rfl) ?_
    refine lv_aload_n C.1 C.2.1 (kd kX8_cuts_0 36 rfl) rfl (lv_at hl 0 rfl) ?_
    refine fl_get (j := 0) (v := .ref (Γ.1 165)) C hP rfl (Nat.le_of_ble_eq_true rfl) rfl inX8 (Nat.le_of_ble_eq_true rfl) tw_862 rfl (kd kX8_cuts_0 37 rfl) ?_
    refine lv_iload_n C.1 C.2.1 (kd kX8_cuts_0 38 rfl) rfl (lv_at hl 2 rfl) ?_
    refine lv_iload_n C.1 C.2.1 (kd kX8_cuts_0 39 rfl) rfl (lv_at hl 3 rfl) ?_
    refine lv_iload C.1 C.2.1 (kd kX8_cuts_0 40 rfl) (lv_at hl 6 rfl) ?_
    refine lv_imul C.1 C.2.1 (kd kX8_cuts_0 41 rfl) ?_
    refine lv_iadd C.1 C.2.1 (kd kX8_cuts_0 42 rfl) ?_
    refine lv_iload C.1 C.2.1 (kd kX8_cuts_0 43 rfl) (lv_at hl 8 rfl) ?_
    refine lv_iadd C.1 C.2.1 (kd kX8_cuts_0 44 rfl) ?_
    obtain ⟨hq, hf⟩ := fb_some hf
    refine fl_iald C hP rfl hq (kd kX8_cuts_0 45 rfl) ?_
    obtain ⟨hq, hf⟩ := fb_some hf
    obtain ⟨σ1, eσ1, hf⟩ := fL_some hf
    refine fl_iast C hP hS rfl hq (kd kX8_cuts_0 46 rfl) (fun H locs hP hS => ?_)
    have hP : fH Γ σ1 H := by rw [eσ1]; exact hP
    refine lv_iinc (v := (v8 + (1 : Int32))) (lv' := [(8, .int (v8 + (1 : Int32))), (0, .ref (Γ.1 164)), (1, .int v1), (2, .int v2), (3, .int v3), (4, .int v4), (5, .int v5), (6, .int v6), (7, .int v7)]) C.1 C.2.1 (kd kX8_cuts_0 47 rfl) hl (k := 8) rfl rfl (Nat.le_of_ble_eq_true rfl) rfl (fun ls hl => ?_)
    refine lv_goto (tgt := 40) C.1 C.2.1 (kd kX8_cuts_0 48 rfl) (by decide) ?_
    exact hK40 (v1) (v2) (v3) (v4) (v5) (v6) (v7) ((v8 + (1 : Int32))) σ1 H locs ls hf hP hS (lv_sub hl [1, 2, 3, 4, 5, 6, 7, 8, 0] rfl)
def f_X8_cuts_b6 : Nat → Int32 → Int32 → Int32 → Int32 → Int32 → Int32 → fS → Option (fS)
  | 0, _, _, _, _, _, _, _ => none
  | n_ + 1, v1, v2, v3, v4, v5, v6, σ => fb v1 277 ((if (σ 165 v1.toNatClampNeg) ≤ v6 then fb v1 277 (fL (fu σ 165 v1.toNatClampNeg v5) (fun σ1 => some σ1)) else fb (v2 + (v3 * v6)) 277 ((if (σ 165 (v2 + (v3 * v6)).toNatClampNeg) = v4 then f_X8_cuts_b110 (fun v1 v2 v3 v4 v5 v6 σ => f_X8_cuts_b6 n_ v1 v2 v3 v4 v5 v6 σ) (v1) (v2) (v3) (v4) (v5) (v6) σ else f_X8_cuts_b40 (fun v1 v2 v3 v4 v5 v6 σ => f_X8_cuts_b6 n_ v1 v2 v3 v4 v5 v6 σ) fN (v1) (v2) (v3) (v4) (v5) (v6) ((σ 165 (v2 + (v3 * v6)).toNatClampNeg)) ((0 : Int32)) σ))))
set_option maxRecDepth 100000 in
set_option maxHeartbeats 4000000 in
theorem w_X8_cuts_b6 {σ' : fS}  (C : fC Γ p s m args meth c cX8_cuts none RX8 9) : ∀ (n_ : Nat) (v1 : Int32) (v2 : Int32) (v3 : Int32) (v4 : Int32) (v5 : Int32) (v6 : Int32) (σ : fS) (H : Heap) (locs : List Loc) (ls : Array Slot), f_X8_cuts_b6 n_ v1 v2 v3 v4 v5 v6 σ = some σ' → fH Γ σ H → va_S (fAd Γ) s.heap H locs → lv_has ls 9 [(0, .ref (Γ.1 164)), (1, .int v1), (2, .int v2), (3, .int v3), (4, .int v4), (5, .int v5), (6, .int v6)] → W p l e ({ frames := 0, cells := 0, slots := 0, locals := 0 } : Room) s m args below meth c H locs 0 0 (MQ below (fQv Γ σ') args s 0 0 (fAd Γ)) (F0 m 6 ls []) := by
  intro n_
  induction n_ with
  | zero =>
    intro v1 v2 v3 v4 v5 v6 σ H locs ls hf
    cases hf
  | succ n_ ih =>
    intro v1 v2 v3 v4 v5 v6 σ H locs ls hf hP hS hl
    have hf : fb v1 277 ((if (σ 165 v1.toNatClampNeg) ≤ v6 then fb v1 277 (fL (fu σ 165 v1.toNatClampNeg v5) (fun σ1 => some σ1)) else fb (v2 + (v3 * v6)) 277 ((if (σ 165 (v2 + (v3 * v6)).toNatClampNeg) = v4 then f_X8_cuts_b110 (fun v1 v2 v3 v4 v5 v6 σ => f_X8_cuts_b6 n_ v1 v2 v3 v4 v5 v6 σ) (v1) (v2) (v3) (v4) (v5) (v6) σ else f_X8_cuts_b40 (fun v1 v2 v3 v4 v5 v6 σ => f_X8_cuts_b6 n_ v1 v2 v3 v4 v5 v6 σ) fN (v1) (v2) (v3) (v4) (v5) (v6) ((σ 165 (v2 + (v3 * v6)).toNatClampNeg)) ((0 : Int32)) σ)))) = some σ' := hf
    have hK6 := ih
    refine lv_iload C.1 C.2.1 (kd kX8_cuts_0 4 rfl) (lv_at hl 6 rfl) ?_
    refine lv_aload_n C.1 C.2.1 (kd kX8_cuts_0 5 rfl) rfl (lv_at hl 0 rfl) ?_
    refine fl_get (j := 0) (v := .ref (Γ.1 165)) C hP rfl (Nat.le_of_ble_eq_true rfl) rfl inX8 (Nat.le_of_ble_eq_true rfl) tw_862 rfl (kd kX8_cuts_0 6 rfl) ?_
    refine lv_iload_n C.1 C.2.1 (kd kX8_cuts_0 7 rfl) rfl (lv_at hl 1 rfl) ?_
    obtain ⟨hq, hf⟩ := fb_some hf
    refine fl_iald C hP rfl hq (kd kX8_cuts_0 8 rfl) ?_
    refine lv_icmp_ge (tgt := 116) C.1 C.2.1 (kd kX8_cuts_0 9 rfl) (by decide) (fun q => ?_) (fun q => ?_)
    · have hf := fif_pos q hf
      refine lv_aload_n C.1 C.2.1 (kd kX8_cuts_1 8 rfl) rfl (lv_at hl 0 rfl) ?_
      refine fl_get (j := 0) (v := .ref (Γ.1 165)) C hP rfl (Nat.le_of_ble_eq_true rfl) rfl inX8 (Nat.le_of_ble_eq_true rfl) tw_862 rfl (kd kX8_cuts_1 9 rfl) ?_
      refine lv_iload_n C.1 C.2.1 (kd kX8_cuts_1 10 rfl) rfl (lv_at hl 1 rfl) ?_
      refine lv_iload C.1 C.2.1 (kd kX8_cuts_1 11 rfl) (lv_at hl 5 rfl) ?_
      obtain ⟨hq, hf⟩ := fb_some hf
      obtain ⟨σ1, eσ1, hf⟩ := fL_some hf
      refine fl_iast C hP hS rfl hq (kd kX8_cuts_1 12 rfl) (fun H locs hP hS => ?_)
      have hP : fH Γ σ1 H := by rw [eσ1]; exact hP
      exact fl_vret C hP hS hf (kd kX8_cuts_1 13 rfl)
    have hf := fif_neg q hf
    refine lv_aload_n C.1 C.2.1 (kd kX8_cuts_0 10 rfl) rfl (lv_at hl 0 rfl) ?_
    refine fl_get (j := 0) (v := .ref (Γ.1 165)) C hP rfl (Nat.le_of_ble_eq_true rfl) rfl inX8 (Nat.le_of_ble_eq_true rfl) tw_862 rfl (kd kX8_cuts_0 11 rfl) ?_
    refine lv_iload_n C.1 C.2.1 (kd kX8_cuts_0 12 rfl) rfl (lv_at hl 2 rfl) ?_
    refine lv_iload_n C.1 C.2.1 (kd kX8_cuts_0 13 rfl) rfl (lv_at hl 3 rfl) ?_
    refine lv_iload C.1 C.2.1 (kd kX8_cuts_0 14 rfl) (lv_at hl 6 rfl) ?_
    refine lv_imul C.1 C.2.1 (kd kX8_cuts_0 15 rfl) ?_
    refine lv_iadd C.1 C.2.1 (kd kX8_cuts_0 16 rfl) ?_
    obtain ⟨hq, hf⟩ := fb_some hf
    refine fl_iald C hP rfl hq (kd kX8_cuts_0 17 rfl) ?_
    refine lv_istore (lv' := [(7, .int (σ 165 (v2 + (v3 * v6)).toNatClampNeg)), (0, .ref (Γ.1 164)), (1, .int v1), (2, .int v2), (3, .int v3), (4, .int v4), (5, .int v5), (6, .int v6)]) C.1 C.2.1 (kd kX8_cuts_0 18 rfl) hl (Nat.le_of_ble_eq_true rfl) rfl (fun ls hl => ?_)
    refine lv_iload C.1 C.2.1 (kd kX8_cuts_0 19 rfl) (lv_at hl 0 rfl) ?_
    refine lv_iload C.1 C.2.1 (kd kX8_cuts_0 20 rfl) (lv_at hl 5 rfl) ?_
    refine lv_icmp_eq (tgt := 110) C.1 C.2.1 (kd kX8_cuts_0 21 rfl) (by decide) (fun q => ?_) (fun q => ?_)
    · have hf := fif_pos q hf
      exact w_X8_cuts_b110 C hK6 (v1) (v2) (v3) (v4) (v5) (v6) σ H locs ls hf hP hS (lv_sub hl [1, 2, 3, 4, 5, 6, 7] rfl)
    have hf := fif_neg q hf
    refine lv_iconst (v := (0 : Int32)) C.1 C.2.1 (kd kX8_cuts_0 22 rfl) (by decide) ?_
    refine lv_istore (lv' := [(8, .int (0 : Int32)), (7, .int (σ 165 (v2 + (v3 * v6)).toNatClampNeg)), (0, .ref (Γ.1 164)), (1, .int v1), (2, .int v2), (3, .int v3), (4, .int v4), (5, .int v5), (6, .int v6)]) C.1 C.2.1 (kd kX8_cuts_0 23 rfl) hl (Nat.le_of_ble_eq_true rfl) rfl (fun ls hl => ?_)
    exact w_X8_cuts_b40 C hK6 fN (v1) (v2) (v3) (v4) (v5) (v6) ((σ 165 (v2 + (v3 * v6)).toNatClampNeg)) ((0 : Int32)) σ H locs ls hf hP hS (lv_sub hl [2, 3, 4, 5, 6, 7, 8, 1, 0] rfl)
def f_X8_cuts (x1 : Int32) (x2 : Int32) (x3 : Int32) (x4 : Int32) (σ : fS) : Option (fS) := f_X8_cuts_b6 fN (x1) (x2) (x3) (x4) ((0 : Int32)) ((0 : Int32)) σ
set_option maxRecDepth 100000 in
set_option maxHeartbeats 4000000 in
theorem m_X8_cuts {Γ : fGm} (hI : fI Γ) (l : Launch) {x1 : Int32} {x2 : Int32} {x3 : Int32} {x4 : Int32} {σ : fS} {σ' : fS} (hf : f_X8_cuts x1 x2 x3 x4 σ = some σ') : Met l yX8_cuts (.code yX8_cuts cX8_cuts 9 none :: lw_g) ({ frames := 0, cells := 0, slots := 0, locals := 0 } : Room) (fPre Γ [.ref (Γ.1 164), .int x1, .int x2, .int x3, .int x4] σ) (fQv Γ σ') 0 0 (fAd Γ) := by
  refine fl_enter (own := RX8) hI (by decide +kernel) rfl (Nat.le_of_ble_eq_true rfl) ?_
  intro p e s m args below meth c ls C hl hP hS
  have hl : lv_has ls 9 [(0, .ref (Γ.1 164)), (1, .int x1), (2, .int x2), (3, .int x3), (4, .int x4)] := hl
  obtain ⟨H, hH⟩ : ∃ H, H = s.heap := ⟨_, rfl⟩
  obtain ⟨locs, hL⟩ : ∃ L : List Loc, L = [] := ⟨_, rfl⟩
  have hP : fH Γ σ H := by rw [hH]; exact hP
  have hS : va_S (fAd Γ) s.heap H locs := by rw [hH, hL]; exact hS
  suffices hw : W p l e ({ frames := 0, cells := 0, slots := 0, locals := 0 } : Room) s m args below meth c H locs 0 0 (MQ below (fQv Γ σ') args s 0 0 (fAd Γ)) (F0 m 0 ls []) by rw [hH, hL] at hw; exact hw
  unfold f_X8_cuts at hf
  refine lv_iconst (v := (0 : Int32)) C.1 C.2.1 (kd kX8_cuts_0 0 rfl) (by decide) ?_
  refine lv_istore (lv' := [(5, .int (0 : Int32)), (0, .ref (Γ.1 164)), (1, .int x1), (2, .int x2), (3, .int x3), (4, .int x4)]) C.1 C.2.1 (kd kX8_cuts_0 1 rfl) hl (Nat.le_of_ble_eq_true rfl) rfl (fun ls hl => ?_)
  refine lv_iconst (v := (0 : Int32)) C.1 C.2.1 (kd kX8_cuts_0 2 rfl) (by decide) ?_
  refine lv_istore (lv' := [(6, .int (0 : Int32)), (5, .int (0 : Int32)), (0, .ref (Γ.1 164)), (1, .int x1), (2, .int x2), (3, .int x3), (4, .int x4)]) C.1 C.2.1 (kd kX8_cuts_0 3 rfl) hl (Nat.le_of_ble_eq_true rfl) rfl (fun ls hl => ?_)
  exact w_X8_cuts_b6 C fN (x1) (x2) (x3) (x4) ((0 : Int32)) ((0 : Int32)) σ H locs ls hf hP hS (lv_sub hl [2, 3, 4, 5, 6, 1, 0] rfl)
def f_X8_removeCrossing_b55 : Nat → Int32 → fS → Option (Int32 × fS)
  | 0, _, _ => none
  | n_ + 1, v2, σ => fb (122 : Int32) 277 ((if ((4 : Int32) * (σ 165 (122 : Int32).toNatClampNeg)) ≤ v2 then fb (122 : Int32) 277 (fcall (f_X8_kept (σ 165 (122 : Int32).toNatClampNeg) σ) (fun r1_ σ1 => some (r1_, σ1))) else fb (((123 : Int32) + v2) + (4 : Int32)) 277 (fb ((123 : Int32) + v2) 277 (fL (fu σ 165 ((123 : Int32) + v2).toNatClampNeg (σ 165 (((123 : Int32) + v2) + (4 : Int32)).toNatClampNeg)) (fun σ2 => (fun v2 σ => f_X8_removeCrossing_b55 n_ v2 σ) ((v2 + (1 : Int32))) σ2)))))
set_option maxRecDepth 100000 in
set_option maxHeartbeats 4000000 in
theorem w_X8_removeCrossing_b55 {r : Int32} {σ' : fS}  (C : fC Γ p s m args meth c cX8_removeCrossing (some .int) RX8 3) : ∀ (n_ : Nat) (v2 : Int32) (σ : fS) (H : Heap) (locs : List Loc) (ls : Array Slot), f_X8_removeCrossing_b55 n_ v2 σ = some (r, σ') → fH Γ σ H → va_S (fAd Γ) s.heap H locs → lv_has ls 3 [(0, .ref (Γ.1 164)), (2, .int v2)] → W p l e ({ frames := 3, cells := 0, slots := 0, locals := 64 } : Room) s m args below meth c H locs 0 0 (MQ below (fQi Γ r σ') args s 0 0 (fAd Γ)) (F0 m 55 ls []) := by
  intro n_
  induction n_ with
  | zero =>
    intro v2 σ H locs ls hf
    cases hf
  | succ n_ ih =>
    intro v2 σ H locs ls hf hP hS hl
    have hf : fb (122 : Int32) 277 ((if ((4 : Int32) * (σ 165 (122 : Int32).toNatClampNeg)) ≤ v2 then fb (122 : Int32) 277 (fcall (f_X8_kept (σ 165 (122 : Int32).toNatClampNeg) σ) (fun r1_ σ1 => some (r1_, σ1))) else fb (((123 : Int32) + v2) + (4 : Int32)) 277 (fb ((123 : Int32) + v2) 277 (fL (fu σ 165 ((123 : Int32) + v2).toNatClampNeg (σ 165 (((123 : Int32) + v2) + (4 : Int32)).toNatClampNeg)) (fun σ2 => (fun v2 σ => f_X8_removeCrossing_b55 n_ v2 σ) ((v2 + (1 : Int32))) σ2))))) = some (r, σ') := hf
    have hK55 := ih
    refine lv_iload_n C.1 C.2.1 (kd kX8_removeCrossing_0 32 rfl) rfl (lv_at hl 1 rfl) ?_
    refine lv_iconst (v := (4 : Int32)) C.1 C.2.1 (kd kX8_removeCrossing_0 33 rfl) (by decide) ?_
    refine lv_aload_n C.1 C.2.1 (kd kX8_removeCrossing_0 34 rfl) rfl (lv_at hl 0 rfl) ?_
    refine fl_get (j := 0) (v := .ref (Γ.1 165)) C hP rfl (Nat.le_of_ble_eq_true rfl) rfl inX8 (Nat.le_of_ble_eq_true rfl) tw_862 rfl (kd kX8_removeCrossing_0 35 rfl) ?_
    refine lv_bipush (v := (122 : Int32)) C.1 C.2.1 (kd kX8_removeCrossing_0 36 rfl) (by decide) ?_
    obtain ⟨hq, hf⟩ := fb_some hf
    refine fl_iald C hP rfl hq (kd kX8_removeCrossing_0 37 rfl) ?_
    refine lv_imul C.1 C.2.1 (kd kX8_removeCrossing_0 38 rfl) ?_
    refine lv_icmp_ge (tgt := 94) C.1 C.2.1 (kd kX8_removeCrossing_0 39 rfl) (by decide) (fun q => ?_) (fun q => ?_)
    · have hf := fif_pos q hf
      refine lv_aload_n C.1 C.2.1 (kd kX8_removeCrossing_0 56 rfl) rfl (lv_at hl 0 rfl) ?_
      refine lv_aload_n C.1 C.2.1 (kd kX8_removeCrossing_0 57 rfl) rfl (lv_at hl 0 rfl) ?_
      refine fl_get (j := 0) (v := .ref (Γ.1 165)) C hP rfl (Nat.le_of_ble_eq_true rfl) rfl inX8 (Nat.le_of_ble_eq_true rfl) tw_862 rfl (kd kX8_removeCrossing_0 58 rfl) ?_
      refine lv_bipush (v := (122 : Int32)) C.1 C.2.1 (kd kX8_removeCrossing_0 59 rfl) (by decide) ?_
      obtain ⟨hq, hf⟩ := fb_some hf
      refine fl_iald C hP rfl hq (kd kX8_removeCrossing_1 0 rfl) ?_
      obtain ⟨r1_, σ1, hσ1, hf⟩ := fcall_some hf
      refine fl_i hS (fl_runV (As := [.int (σ 165 (122 : Int32).toNatClampNeg)]) (rest := []) C hP rfl (Nat.le_of_ble_eq_true rfl) rfl (m_X8_kept C.2.2.2.2.2.2.2.2 l  hσ1) (fgV tw_971 tw_973 tw_22 tw_75 tw_974) hd_X8_kept ⟨rfl, rfl, Nat.le_of_ble_eq_true rfl, Nat.le_of_ble_eq_true rfl⟩ rfl hl.1 rfl (Nat.le_of_ble_eq_true rfl) (kd kX8_removeCrossing_1 1 rfl)) (fun H locs hP hS => ?_)
      exact fl_iret C hP hS hf (kd kX8_removeCrossing_1 2 rfl)
    have hf := fif_neg q hf
    refine lv_aload_n C.1 C.2.1 (kd kX8_removeCrossing_0 40 rfl) rfl (lv_at hl 0 rfl) ?_
    refine fl_get (j := 0) (v := .ref (Γ.1 165)) C hP rfl (Nat.le_of_ble_eq_true rfl) rfl inX8 (Nat.le_of_ble_eq_true rfl) tw_862 rfl (kd kX8_removeCrossing_0 41 rfl) ?_
    refine lv_bipush (v := (123 : Int32)) C.1 C.2.1 (kd kX8_removeCrossing_0 42 rfl) (by decide) ?_
    refine lv_iload_n C.1 C.2.1 (kd kX8_removeCrossing_0 43 rfl) rfl (lv_at hl 1 rfl) ?_
    refine lv_iadd C.1 C.2.1 (kd kX8_removeCrossing_0 44 rfl) ?_
    refine lv_aload_n C.1 C.2.1 (kd kX8_removeCrossing_0 45 rfl) rfl (lv_at hl 0 rfl) ?_
    refine fl_get (j := 0) (v := .ref (Γ.1 165)) C hP rfl (Nat.le_of_ble_eq_true rfl) rfl inX8 (Nat.le_of_ble_eq_true rfl) tw_862 rfl (kd kX8_removeCrossing_0 46 rfl) ?_
    refine lv_bipush (v := (123 : Int32)) C.1 C.2.1 (kd kX8_removeCrossing_0 47 rfl) (by decide) ?_
    refine lv_iload_n C.1 C.2.1 (kd kX8_removeCrossing_0 48 rfl) rfl (lv_at hl 1 rfl) ?_
    refine lv_iadd C.1 C.2.1 (kd kX8_removeCrossing_0 49 rfl) ?_
    refine lv_iconst (v := (4 : Int32)) C.1 C.2.1 (kd kX8_removeCrossing_0 50 rfl) (by decide) ?_
    refine lv_iadd C.1 C.2.1 (kd kX8_removeCrossing_0 51 rfl) ?_
    obtain ⟨hq, hf⟩ := fb_some hf
    refine fl_iald C hP rfl hq (kd kX8_removeCrossing_0 52 rfl) ?_
    obtain ⟨hq, hf⟩ := fb_some hf
    obtain ⟨σ2, eσ2, hf⟩ := fL_some hf
    refine fl_iast C hP hS rfl hq (kd kX8_removeCrossing_0 53 rfl) (fun H locs hP hS => ?_)
    have hP : fH Γ σ2 H := by rw [eσ2]; exact hP
    refine lv_iinc (v := (v2 + (1 : Int32))) (lv' := [(2, .int (v2 + (1 : Int32))), (0, .ref (Γ.1 164))]) C.1 C.2.1 (kd kX8_removeCrossing_0 54 rfl) hl (k := 1) rfl rfl (Nat.le_of_ble_eq_true rfl) rfl (fun ls hl => ?_)
    refine lv_goto (tgt := 55) C.1 C.2.1 (kd kX8_removeCrossing_0 55 rfl) (by decide) ?_
    exact hK55 ((v2 + (1 : Int32))) σ2 H locs ls hf hP hS (lv_sub hl [1, 0] rfl)
def f_X8_removeCrossing (x1 : Int32) (σ : fS) : Option (Int32 × fS) := fcall (f_X8_isCrossing x1 σ) (fun r1_ σ1 => (if r1_ = 0 then some ((-10001 : Int32), σ1) else fcallv (f_X8_remembers σ1) (fun σ2 => fcallv (f_X8_cuts (171 : Int32) (172 : Int32) (3 : Int32) x1 σ2) (fun σ3 => fcallv (f_X8_cuts (244 : Int32) (245 : Int32) (4 : Int32) x1 σ3) (fun σ4 => fb (122 : Int32) 277 (fb (122 : Int32) 277 (fL (fu σ4 165 (122 : Int32).toNatClampNeg ((σ4 165 (122 : Int32).toNatClampNeg) - (1 : Int32))) (fun σ5 => f_X8_removeCrossing_b55 fN (((4 : Int32) * x1)) σ5))))))))
set_option maxRecDepth 100000 in
set_option maxHeartbeats 4000000 in
theorem m_X8_removeCrossing {Γ : fGm} (hI : fI Γ) (l : Launch) {x1 : Int32} {σ : fS} {r : Int32} {σ' : fS} (hf : f_X8_removeCrossing x1 σ = some (r, σ')) : Met l yX8_removeCrossing (.code yX8_removeCrossing cX8_removeCrossing 3 (some .int) :: lw_g) ({ frames := 3, cells := 0, slots := 0, locals := 64 } : Room) (fPre Γ [.ref (Γ.1 164), .int x1] σ) (fQi Γ r σ') 0 0 (fAd Γ) := by
  refine fl_enter (own := RX8) hI (by decide +kernel) rfl (Nat.le_of_ble_eq_true rfl) ?_
  intro p e s m args below meth c ls C hl hP hS
  have hl : lv_has ls 3 [(0, .ref (Γ.1 164)), (1, .int x1)] := hl
  obtain ⟨H, hH⟩ : ∃ H, H = s.heap := ⟨_, rfl⟩
  obtain ⟨locs, hL⟩ : ∃ L : List Loc, L = [] := ⟨_, rfl⟩
  have hP : fH Γ σ H := by rw [hH]; exact hP
  have hS : va_S (fAd Γ) s.heap H locs := by rw [hH, hL]; exact hS
  suffices hw : W p l e ({ frames := 3, cells := 0, slots := 0, locals := 64 } : Room) s m args below meth c H locs 0 0 (MQ below (fQi Γ r σ') args s 0 0 (fAd Γ)) (F0 m 0 ls []) by rw [hH, hL] at hw; exact hw
  unfold f_X8_removeCrossing at hf
  refine lv_aload_n C.1 C.2.1 (kd kX8_removeCrossing_0 0 rfl) rfl (lv_at hl 0 rfl) ?_
  refine lv_iload_n C.1 C.2.1 (kd kX8_removeCrossing_0 1 rfl) rfl (lv_at hl 1 rfl) ?_
  obtain ⟨r1_, σ1, hσ1, hf⟩ := fcall_some hf
  refine fl_i hS (fl_runV (As := [.int x1]) (rest := []) C hP rfl (Nat.le_of_ble_eq_true rfl) rfl (m_X8_isCrossing C.2.2.2.2.2.2.2.2 l  hσ1) (fgV tw_1010 tw_1012 tw_28 tw_75 tw_1013) hd_X8_isCrossing ⟨rfl, rfl, Nat.le_of_ble_eq_true rfl, Nat.le_of_ble_eq_true rfl⟩ rfl hl.1 rfl (Nat.le_of_ble_eq_true rfl) (kd kX8_removeCrossing_0 2 rfl)) (fun H locs hP hS => ?_)
  refine lv_if_ne (tgt := 12) C.1 C.2.1 (kd kX8_removeCrossing_0 3 rfl) (by decide) (fun q => ?_) (fun q => ?_)
  · have hf := fif_neg q hf
    refine lv_aload_n C.1 C.2.1 (kd kX8_removeCrossing_0 6 rfl) rfl (lv_at hl 0 rfl) ?_
    obtain ⟨σ2, hσ2, hf⟩ := fcallv_some hf
    refine fl_v hS (fl_runV (As := []) (rest := []) C hP rfl (Nat.le_of_ble_eq_true rfl) rfl (m_X8_remembers C.2.2.2.2.2.2.2.2 l  hσ2) (fgV tw_960 tw_962 tw_20 tw_75 tw_963) hd_X8_remembers ⟨rfl, rfl, Nat.le_of_ble_eq_true rfl, Nat.le_of_ble_eq_true rfl⟩ rfl hl.1 rfl (Nat.le_of_ble_eq_true rfl) (kd kX8_removeCrossing_0 7 rfl)) (fun H locs hP hS => ?_)
    refine lv_aload_n C.1 C.2.1 (kd kX8_removeCrossing_0 8 rfl) rfl (lv_at hl 0 rfl) ?_
    refine lv_sipush (v := (171 : Int32)) C.1 C.2.1 (kd kX8_removeCrossing_0 9 rfl) (by decide) ?_
    refine lv_sipush (v := (172 : Int32)) C.1 C.2.1 (kd kX8_removeCrossing_0 10 rfl) (by decide) ?_
    refine lv_iconst (v := (3 : Int32)) C.1 C.2.1 (kd kX8_removeCrossing_0 11 rfl) (by decide) ?_
    refine lv_iload_n C.1 C.2.1 (kd kX8_removeCrossing_0 12 rfl) rfl (lv_at hl 1 rfl) ?_
    obtain ⟨σ3, hσ3, hf⟩ := fcallv_some hf
    refine fl_v hS (fl_runV (As := [.int (171 : Int32), .int (172 : Int32), .int (3 : Int32), .int x1]) (rest := []) C hP rfl (Nat.le_of_ble_eq_true rfl) rfl (m_X8_cuts C.2.2.2.2.2.2.2.2 l  hσ3) (fgV tw_1026 tw_1028 tw_30 tw_75 tw_1029) hd_X8_cuts ⟨rfl, rfl, Nat.le_of_ble_eq_true rfl, Nat.le_of_ble_eq_true rfl⟩ rfl hl.1 rfl (Nat.le_of_ble_eq_true rfl) (kd kX8_removeCrossing_0 13 rfl)) (fun H locs hP hS => ?_)
    refine lv_aload_n C.1 C.2.1 (kd kX8_removeCrossing_0 14 rfl) rfl (lv_at hl 0 rfl) ?_
    refine lv_sipush (v := (244 : Int32)) C.1 C.2.1 (kd kX8_removeCrossing_0 15 rfl) (by decide) ?_
    refine lv_sipush (v := (245 : Int32)) C.1 C.2.1 (kd kX8_removeCrossing_0 16 rfl) (by decide) ?_
    refine lv_iconst (v := (4 : Int32)) C.1 C.2.1 (kd kX8_removeCrossing_0 17 rfl) (by decide) ?_
    refine lv_iload_n C.1 C.2.1 (kd kX8_removeCrossing_0 18 rfl) rfl (lv_at hl 1 rfl) ?_
    obtain ⟨σ4, hσ4, hf⟩ := fcallv_some hf
    refine fl_v hS (fl_runV (As := [.int (244 : Int32), .int (245 : Int32), .int (4 : Int32), .int x1]) (rest := []) C hP rfl (Nat.le_of_ble_eq_true rfl) rfl (m_X8_cuts C.2.2.2.2.2.2.2.2 l  hσ4) (fgV tw_1026 tw_1028 tw_30 tw_75 tw_1029) hd_X8_cuts ⟨rfl, rfl, Nat.le_of_ble_eq_true rfl, Nat.le_of_ble_eq_true rfl⟩ rfl hl.1 rfl (Nat.le_of_ble_eq_true rfl) (kd kX8_removeCrossing_0 19 rfl)) (fun H locs hP hS => ?_)
    refine lv_aload_n C.1 C.2.1 (kd kX8_removeCrossing_0 20 rfl) rfl (lv_at hl 0 rfl) ?_
    refine fl_get (j := 0) (v := .ref (Γ.1 165)) C hP rfl (Nat.le_of_ble_eq_true rfl) rfl inX8 (Nat.le_of_ble_eq_true rfl) tw_862 rfl (kd kX8_removeCrossing_0 21 rfl) ?_
    refine lv_bipush (v := (122 : Int32)) C.1 C.2.1 (kd kX8_removeCrossing_0 22 rfl) (by decide) ?_
    refine lv_dup2_11 C.1 C.2.1 (kd kX8_removeCrossing_0 23 rfl) rfl rfl ?_
    obtain ⟨hq, hf⟩ := fb_some hf
    refine fl_iald C hP rfl hq (kd kX8_removeCrossing_0 24 rfl) ?_
    refine lv_iconst (v := (1 : Int32)) C.1 C.2.1 (kd kX8_removeCrossing_0 25 rfl) (by decide) ?_
    refine lv_isub C.1 C.2.1 (kd kX8_removeCrossing_0 26 rfl) ?_
    obtain ⟨hq, hf⟩ := fb_some hf
    obtain ⟨σ5, eσ5, hf⟩ := fL_some hf
    refine fl_iast C hP hS rfl hq (kd kX8_removeCrossing_0 27 rfl) (fun H locs hP hS => ?_)
    have hP : fH Γ σ5 H := by rw [eσ5]; exact hP
    refine lv_iconst (v := (4 : Int32)) C.1 C.2.1 (kd kX8_removeCrossing_0 28 rfl) (by decide) ?_
    refine lv_iload_n C.1 C.2.1 (kd kX8_removeCrossing_0 29 rfl) rfl (lv_at hl 1 rfl) ?_
    refine lv_imul C.1 C.2.1 (kd kX8_removeCrossing_0 30 rfl) ?_
    refine lv_istore_n (lv' := [(2, .int ((4 : Int32) * x1)), (0, .ref (Γ.1 164)), (1, .int x1)]) C.1 C.2.1 (kd kX8_removeCrossing_0 31 rfl) rfl hl (Nat.le_of_ble_eq_true rfl) rfl (fun ls hl => ?_)
    exact w_X8_removeCrossing_b55 C fN (((4 : Int32) * x1)) σ5 H locs ls hf hP hS (lv_sub hl [1, 0] rfl)
  have hf := fif_pos q hf
  refine lv_sipush (v := (-10001 : Int32)) C.1 C.2.1 (kd kX8_removeCrossing_0 4 rfl) (by decide) ?_
  exact fl_iret C hP hS hf (kd kX8_removeCrossing_0 5 rfl)
def f_X8_setBerth (x1 : Int32) (x2 : Int32) (x3 : Int32) (σ : fS) : Option (Int32 × fS) := fcall (f_X8_isBerth x1 σ) (fun r1_ σ1 => (if r1_ = 0 then some ((-10001 : Int32), σ1) else fcall (f_X8_in x2 (0 : Int32) (999 : Int32) σ1) (fun r2_ σ2 => (if r2_ = 0 then some ((-10002 : Int32), σ2) else fcall (f_X8_in x3 (1 : Int32) (2 : Int32) σ2) (fun r3_ σ3 => (if r3_ = 0 then some ((-10002 : Int32), σ3) else fcallv (f_X8_remembers σ3) (fun σ4 => fcall (f_X8_berthOf x1 (0 : Int32) σ4) (fun r5_ σ5 => fcall (f_X8_berthOf x1 (1 : Int32) σ5) (fun r6_ σ6 => fb ((116 : Int32) + ((2 : Int32) * x1)) 277 (fL (fu σ6 165 ((116 : Int32) + ((2 : Int32) * x1)).toNatClampNeg x2) (fun σ7 => fb (((116 : Int32) + ((2 : Int32) * x1)) + (1 : Int32)) 277 (fL (fu σ7 165 (((116 : Int32) + ((2 : Int32) * x1)) + (1 : Int32)).toNatClampNeg x3) (fun σ8 => fcall (f_X8_kept (((10 : Int32) * r5_) + r6_) σ8) (fun r9_ σ9 => some (r9_, σ9)))))))))))))))
set_option maxRecDepth 100000 in
set_option maxHeartbeats 4000000 in
theorem m_X8_setBerth {Γ : fGm} (hI : fI Γ) (l : Launch) {x1 : Int32} {x2 : Int32} {x3 : Int32} {σ : fS} {r : Int32} {σ' : fS} (hf : f_X8_setBerth x1 x2 x3 σ = some (r, σ')) : Met l yX8_setBerth (.code yX8_setBerth cX8_setBerth 5 (some .int) :: lw_g) ({ frames := 3, cells := 0, slots := 0, locals := 64 } : Room) (fPre Γ [.ref (Γ.1 164), .int x1, .int x2, .int x3] σ) (fQi Γ r σ') 0 0 (fAd Γ) := by
  refine fl_enter (own := RX8) hI (by decide +kernel) rfl (Nat.le_of_ble_eq_true rfl) ?_
  intro p e s m args below meth c ls C hl hP hS
  have hl : lv_has ls 5 [(0, .ref (Γ.1 164)), (1, .int x1), (2, .int x2), (3, .int x3)] := hl
  obtain ⟨H, hH⟩ : ∃ H, H = s.heap := ⟨_, rfl⟩
  obtain ⟨locs, hL⟩ : ∃ L : List Loc, L = [] := ⟨_, rfl⟩
  have hP : fH Γ σ H := by rw [hH]; exact hP
  have hS : va_S (fAd Γ) s.heap H locs := by rw [hH, hL]; exact hS
  suffices hw : W p l e ({ frames := 3, cells := 0, slots := 0, locals := 64 } : Room) s m args below meth c H locs 0 0 (MQ below (fQi Γ r σ') args s 0 0 (fAd Γ)) (F0 m 0 ls []) by rw [hH, hL] at hw; exact hw
  unfold f_X8_setBerth at hf
  refine lv_aload_n C.1 C.2.1 (kd kX8_setBerth_0 0 rfl) rfl (lv_at hl 0 rfl) ?_
  refine lv_iload_n C.1 C.2.1 (kd kX8_setBerth_0 1 rfl) rfl (lv_at hl 1 rfl) ?_
  obtain ⟨r1_, σ1, hσ1, hf⟩ := fcall_some hf
  refine fl_i hS (fl_runV (As := [.int x1]) (rest := []) C hP rfl (Nat.le_of_ble_eq_true rfl) rfl (m_X8_isBerth C.2.2.2.2.2.2.2.2 l  hσ1) (fgV tw_998 tw_1000 tw_26 tw_75 tw_1001) hd_X8_isBerth ⟨rfl, rfl, Nat.le_of_ble_eq_true rfl, Nat.le_of_ble_eq_true rfl⟩ rfl hl.1 rfl (Nat.le_of_ble_eq_true rfl) (kd kX8_setBerth_0 2 rfl)) (fun H locs hP hS => ?_)
  refine lv_if_ne (tgt := 12) C.1 C.2.1 (kd kX8_setBerth_0 3 rfl) (by decide) (fun q => ?_) (fun q => ?_)
  · have hf := fif_neg q hf
    refine lv_iload_n C.1 C.2.1 (kd kX8_setBerth_0 6 rfl) rfl (lv_at hl 2 rfl) ?_
    refine lv_iconst (v := (0 : Int32)) C.1 C.2.1 (kd kX8_setBerth_0 7 rfl) (by decide) ?_
    refine lv_sipush (v := (999 : Int32)) C.1 C.2.1 (kd kX8_setBerth_0 8 rfl) (by decide) ?_
    obtain ⟨r2_, σ2, hσ2, hf⟩ := fcall_some hf
    refine fl_i hS (fl_runS (As := [.int x2, .int (0 : Int32), .int (999 : Int32)]) (rest := []) C hP (m_X8_in C.2.2.2.2.2.2.2.2 l  hσ2) (fgS tw_968 tw_969 tw_75 tw_970) hs_X8_in ⟨rfl, rfl, Nat.le_of_ble_eq_true rfl, Nat.le_of_ble_eq_true rfl⟩ rfl hl.1 rfl (Nat.le_of_ble_eq_true rfl) (kd kX8_setBerth_0 9 rfl)) (fun H locs hP hS => ?_)
    refine lv_if_eq (tgt := 32) C.1 C.2.1 (kd kX8_setBerth_0 10 rfl) (by decide) (fun q => ?_) (fun q => ?_)
    · have hf := fif_pos q hf
      refine lv_sipush (v := (-10002 : Int32)) C.1 C.2.1 (kd kX8_setBerth_0 16 rfl) (by decide) ?_
      exact fl_iret C hP hS hf (kd kX8_setBerth_0 17 rfl)
    have hf := fif_neg q hf
    refine lv_iload_n C.1 C.2.1 (kd kX8_setBerth_0 11 rfl) rfl (lv_at hl 3 rfl) ?_
    refine lv_iconst (v := (1 : Int32)) C.1 C.2.1 (kd kX8_setBerth_0 12 rfl) (by decide) ?_
    refine lv_iconst (v := (2 : Int32)) C.1 C.2.1 (kd kX8_setBerth_0 13 rfl) (by decide) ?_
    obtain ⟨r3_, σ3, hσ3, hf⟩ := fcall_some hf
    refine fl_i hS (fl_runS (As := [.int x3, .int (1 : Int32), .int (2 : Int32)]) (rest := []) C hP (m_X8_in C.2.2.2.2.2.2.2.2 l  hσ3) (fgS tw_968 tw_969 tw_75 tw_970) hs_X8_in ⟨rfl, rfl, Nat.le_of_ble_eq_true rfl, Nat.le_of_ble_eq_true rfl⟩ rfl hl.1 rfl (Nat.le_of_ble_eq_true rfl) (kd kX8_setBerth_0 14 rfl)) (fun H locs hP hS => ?_)
    refine lv_if_ne (tgt := 36) C.1 C.2.1 (kd kX8_setBerth_0 15 rfl) (by decide) (fun q => ?_) (fun q => ?_)
    · have hf := fif_neg q hf
      refine lv_aload_n C.1 C.2.1 (kd kX8_setBerth_0 18 rfl) rfl (lv_at hl 0 rfl) ?_
      obtain ⟨σ4, hσ4, hf⟩ := fcallv_some hf
      refine fl_v hS (fl_runV (As := []) (rest := []) C hP rfl (Nat.le_of_ble_eq_true rfl) rfl (m_X8_remembers C.2.2.2.2.2.2.2.2 l  hσ4) (fgV tw_960 tw_962 tw_20 tw_75 tw_963) hd_X8_remembers ⟨rfl, rfl, Nat.le_of_ble_eq_true rfl, Nat.le_of_ble_eq_true rfl⟩ rfl hl.1 rfl (Nat.le_of_ble_eq_true rfl) (kd kX8_setBerth_0 19 rfl)) (fun H locs hP hS => ?_)
      refine lv_bipush (v := (10 : Int32)) C.1 C.2.1 (kd kX8_setBerth_0 20 rfl) (by decide) ?_
      refine lv_aload_n C.1 C.2.1 (kd kX8_setBerth_0 21 rfl) rfl (lv_at hl 0 rfl) ?_
      refine lv_iload_n C.1 C.2.1 (kd kX8_setBerth_0 22 rfl) rfl (lv_at hl 1 rfl) ?_
      refine lv_iconst (v := (0 : Int32)) C.1 C.2.1 (kd kX8_setBerth_0 23 rfl) (by decide) ?_
      obtain ⟨r5_, σ5, hσ5, hf⟩ := fcall_some hf
      refine fl_i hS (fl_runV (As := [.int x1, .int (0 : Int32)]) (rest := [.int (10 : Int32)]) C hP rfl (Nat.le_of_ble_eq_true rfl) rfl (m_X8_berthOf C.2.2.2.2.2.2.2.2 l  hσ5) (fgV tw_1034 tw_1036 tw_31 tw_75 tw_1037) hd_X8_berthOf ⟨rfl, rfl, Nat.le_of_ble_eq_true rfl, Nat.le_of_ble_eq_true rfl⟩ rfl hl.1 rfl (Nat.le_of_ble_eq_true rfl) (kd kX8_setBerth_0 24 rfl)) (fun H locs hP hS => ?_)
      refine lv_imul C.1 C.2.1 (kd kX8_setBerth_0 25 rfl) ?_
      refine lv_aload_n C.1 C.2.1 (kd kX8_setBerth_0 26 rfl) rfl (lv_at hl 0 rfl) ?_
      refine lv_iload_n C.1 C.2.1 (kd kX8_setBerth_0 27 rfl) rfl (lv_at hl 1 rfl) ?_
      refine lv_iconst (v := (1 : Int32)) C.1 C.2.1 (kd kX8_setBerth_0 28 rfl) (by decide) ?_
      obtain ⟨r6_, σ6, hσ6, hf⟩ := fcall_some hf
      refine fl_i hS (fl_runV (As := [.int x1, .int (1 : Int32)]) (rest := [.int ((10 : Int32) * r5_)]) C hP rfl (Nat.le_of_ble_eq_true rfl) rfl (m_X8_berthOf C.2.2.2.2.2.2.2.2 l  hσ6) (fgV tw_1034 tw_1036 tw_31 tw_75 tw_1037) hd_X8_berthOf ⟨rfl, rfl, Nat.le_of_ble_eq_true rfl, Nat.le_of_ble_eq_true rfl⟩ rfl hl.1 rfl (Nat.le_of_ble_eq_true rfl) (kd kX8_setBerth_0 29 rfl)) (fun H locs hP hS => ?_)
      refine lv_iadd C.1 C.2.1 (kd kX8_setBerth_0 30 rfl) ?_
      refine lv_istore (lv' := [(4, .int (((10 : Int32) * r5_) + r6_)), (0, .ref (Γ.1 164)), (1, .int x1), (2, .int x2), (3, .int x3)]) C.1 C.2.1 (kd kX8_setBerth_0 31 rfl) hl (Nat.le_of_ble_eq_true rfl) rfl (fun ls hl => ?_)
      refine lv_aload_n C.1 C.2.1 (kd kX8_setBerth_0 32 rfl) rfl (lv_at hl 1 rfl) ?_
      refine fl_get (j := 0) (v := .ref (Γ.1 165)) C hP rfl (Nat.le_of_ble_eq_true rfl) rfl inX8 (Nat.le_of_ble_eq_true rfl) tw_862 rfl (kd kX8_setBerth_0 33 rfl) ?_
      refine lv_bipush (v := (116 : Int32)) C.1 C.2.1 (kd kX8_setBerth_0 34 rfl) (by decide) ?_
      refine lv_iconst (v := (2 : Int32)) C.1 C.2.1 (kd kX8_setBerth_0 35 rfl) (by decide) ?_
      refine lv_iload_n C.1 C.2.1 (kd kX8_setBerth_0 36 rfl) rfl (lv_at hl 2 rfl) ?_
      refine lv_imul C.1 C.2.1 (kd kX8_setBerth_0 37 rfl) ?_
      refine lv_iadd C.1 C.2.1 (kd kX8_setBerth_0 38 rfl) ?_
      refine lv_iload_n C.1 C.2.1 (kd kX8_setBerth_0 39 rfl) rfl (lv_at hl 3 rfl) ?_
      obtain ⟨hq, hf⟩ := fb_some hf
      obtain ⟨σ7, eσ7, hf⟩ := fL_some hf
      refine fl_iast C hP hS rfl hq (kd kX8_setBerth_0 40 rfl) (fun H locs hP hS => ?_)
      have hP : fH Γ σ7 H := by rw [eσ7]; exact hP
      refine lv_aload_n C.1 C.2.1 (kd kX8_setBerth_0 41 rfl) rfl (lv_at hl 1 rfl) ?_
      refine fl_get (j := 0) (v := .ref (Γ.1 165)) C hP rfl (Nat.le_of_ble_eq_true rfl) rfl inX8 (Nat.le_of_ble_eq_true rfl) tw_862 rfl (kd kX8_setBerth_0 42 rfl) ?_
      refine lv_bipush (v := (116 : Int32)) C.1 C.2.1 (kd kX8_setBerth_0 43 rfl) (by decide) ?_
      refine lv_iconst (v := (2 : Int32)) C.1 C.2.1 (kd kX8_setBerth_0 44 rfl) (by decide) ?_
      refine lv_iload_n C.1 C.2.1 (kd kX8_setBerth_0 45 rfl) rfl (lv_at hl 2 rfl) ?_
      refine lv_imul C.1 C.2.1 (kd kX8_setBerth_0 46 rfl) ?_
      refine lv_iadd C.1 C.2.1 (kd kX8_setBerth_0 47 rfl) ?_
      refine lv_iconst (v := (1 : Int32)) C.1 C.2.1 (kd kX8_setBerth_0 48 rfl) (by decide) ?_
      refine lv_iadd C.1 C.2.1 (kd kX8_setBerth_0 49 rfl) ?_
      refine lv_iload_n C.1 C.2.1 (kd kX8_setBerth_0 50 rfl) rfl (lv_at hl 4 rfl) ?_
      obtain ⟨hq, hf⟩ := fb_some hf
      obtain ⟨σ8, eσ8, hf⟩ := fL_some hf
      refine fl_iast C hP hS rfl hq (kd kX8_setBerth_0 51 rfl) (fun H locs hP hS => ?_)
      have hP : fH Γ σ8 H := by rw [eσ8]; exact hP
      refine lv_aload_n C.1 C.2.1 (kd kX8_setBerth_0 52 rfl) rfl (lv_at hl 1 rfl) ?_
      refine lv_iload C.1 C.2.1 (kd kX8_setBerth_0 53 rfl) (lv_at hl 0 rfl) ?_
      obtain ⟨r9_, σ9, hσ9, hf⟩ := fcall_some hf
      refine fl_i hS (fl_runV (As := [.int (((10 : Int32) * r5_) + r6_)]) (rest := []) C hP rfl (Nat.le_of_ble_eq_true rfl) rfl (m_X8_kept C.2.2.2.2.2.2.2.2 l  hσ9) (fgV tw_971 tw_973 tw_22 tw_75 tw_974) hd_X8_kept ⟨rfl, rfl, Nat.le_of_ble_eq_true rfl, Nat.le_of_ble_eq_true rfl⟩ rfl hl.1 rfl (Nat.le_of_ble_eq_true rfl) (kd kX8_setBerth_0 54 rfl)) (fun H locs hP hS => ?_)
      exact fl_iret C hP hS hf (kd kX8_setBerth_0 55 rfl)
    have hf := fif_pos q hf
    refine lv_sipush (v := (-10002 : Int32)) C.1 C.2.1 (kd kX8_setBerth_0 16 rfl) (by decide) ?_
    exact fl_iret C hP hS hf (kd kX8_setBerth_0 17 rfl)
  have hf := fif_pos q hf
  refine lv_sipush (v := (-10001 : Int32)) C.1 C.2.1 (kd kX8_setBerth_0 4 rfl) (by decide) ?_
  exact fl_iret C hP hS hf (kd kX8_setBerth_0 5 rfl)
def f_X8_setTide (x1 : Int32) (x2 : Int32) (σ : fS) : Option (Int32 × fS) := fcallv (f_X8_remembers σ) (fun σ1 => fcall (f_X8_setsTide x1 x2 σ1) (fun r2_ σ2 => fcall (f_X8_kept r2_ σ2) (fun r3_ σ3 => some (r3_, σ3))))
set_option maxRecDepth 100000 in
set_option maxHeartbeats 4000000 in
theorem m_X8_setTide {Γ : fGm} (hI : fI Γ) (l : Launch) {x1 : Int32} {x2 : Int32} {σ : fS} {r : Int32} {σ' : fS} (hf : f_X8_setTide x1 x2 σ = some (r, σ')) : Met l yX8_setTide (.code yX8_setTide cX8_setTide 3 (some .int) :: lw_g) ({ frames := 3, cells := 0, slots := 0, locals := 64 } : Room) (fPre Γ [.ref (Γ.1 164), .int x1, .int x2] σ) (fQi Γ r σ') 0 0 (fAd Γ) := by
  refine fl_enter (own := RX8) hI (by decide +kernel) rfl (Nat.le_of_ble_eq_true rfl) ?_
  intro p e s m args below meth c ls C hl hP hS
  have hl : lv_has ls 3 [(0, .ref (Γ.1 164)), (1, .int x1), (2, .int x2)] := hl
  obtain ⟨H, hH⟩ : ∃ H, H = s.heap := ⟨_, rfl⟩
  obtain ⟨locs, hL⟩ : ∃ L : List Loc, L = [] := ⟨_, rfl⟩
  have hP : fH Γ σ H := by rw [hH]; exact hP
  have hS : va_S (fAd Γ) s.heap H locs := by rw [hH, hL]; exact hS
  suffices hw : W p l e ({ frames := 3, cells := 0, slots := 0, locals := 64 } : Room) s m args below meth c H locs 0 0 (MQ below (fQi Γ r σ') args s 0 0 (fAd Γ)) (F0 m 0 ls []) by rw [hH, hL] at hw; exact hw
  unfold f_X8_setTide at hf
  refine lv_aload_n C.1 C.2.1 (kd kX8_setTide_0 0 rfl) rfl (lv_at hl 0 rfl) ?_
  obtain ⟨σ1, hσ1, hf⟩ := fcallv_some hf
  refine fl_v hS (fl_runV (As := []) (rest := []) C hP rfl (Nat.le_of_ble_eq_true rfl) rfl (m_X8_remembers C.2.2.2.2.2.2.2.2 l  hσ1) (fgV tw_960 tw_962 tw_20 tw_75 tw_963) hd_X8_remembers ⟨rfl, rfl, Nat.le_of_ble_eq_true rfl, Nat.le_of_ble_eq_true rfl⟩ rfl hl.1 rfl (Nat.le_of_ble_eq_true rfl) (kd kX8_setTide_0 1 rfl)) (fun H locs hP hS => ?_)
  refine lv_aload_n C.1 C.2.1 (kd kX8_setTide_0 2 rfl) rfl (lv_at hl 0 rfl) ?_
  refine lv_aload_n C.1 C.2.1 (kd kX8_setTide_0 3 rfl) rfl (lv_at hl 0 rfl) ?_
  refine lv_iload_n C.1 C.2.1 (kd kX8_setTide_0 4 rfl) rfl (lv_at hl 1 rfl) ?_
  refine lv_iload_n C.1 C.2.1 (kd kX8_setTide_0 5 rfl) rfl (lv_at hl 2 rfl) ?_
  obtain ⟨r2_, σ2, hσ2, hf⟩ := fcall_some hf
  refine fl_i hS (fl_runV (As := [.int x1, .int x2]) (rest := [.ref (Γ.1 164)]) C hP rfl (Nat.le_of_ble_eq_true rfl) rfl (m_X8_setsTide C.2.2.2.2.2.2.2.2 l  hσ2) (fgV tw_1042 tw_1044 tw_32 tw_75 tw_1045) hd_X8_setsTide ⟨rfl, rfl, Nat.le_of_ble_eq_true rfl, Nat.le_of_ble_eq_true rfl⟩ rfl hl.1 rfl (Nat.le_of_ble_eq_true rfl) (kd kX8_setTide_0 6 rfl)) (fun H locs hP hS => ?_)
  obtain ⟨r3_, σ3, hσ3, hf⟩ := fcall_some hf
  refine fl_i hS (fl_runV (As := [.int r2_]) (rest := []) C hP rfl (Nat.le_of_ble_eq_true rfl) rfl (m_X8_kept C.2.2.2.2.2.2.2.2 l  hσ3) (fgV tw_971 tw_973 tw_22 tw_75 tw_974) hd_X8_kept ⟨rfl, rfl, Nat.le_of_ble_eq_true rfl, Nat.le_of_ble_eq_true rfl⟩ rfl hl.1 rfl (Nat.le_of_ble_eq_true rfl) (kd kX8_setTide_0 7 rfl)) (fun H locs hP hS => ?_)
  exact fl_iret C hP hS hf (kd kX8_setTide_0 8 rfl)
def f_X8_setWind (x1 : Int32) (x2 : Int32) (σ : fS) : Option (Int32 × fS) := fcallv (f_X8_remembers σ) (fun σ1 => fcall (f_X8_setsWind x1 x2 σ1) (fun r2_ σ2 => fcall (f_X8_kept r2_ σ2) (fun r3_ σ3 => some (r3_, σ3))))
set_option maxRecDepth 100000 in
set_option maxHeartbeats 4000000 in
theorem m_X8_setWind {Γ : fGm} (hI : fI Γ) (l : Launch) {x1 : Int32} {x2 : Int32} {σ : fS} {r : Int32} {σ' : fS} (hf : f_X8_setWind x1 x2 σ = some (r, σ')) : Met l yX8_setWind (.code yX8_setWind cX8_setWind 3 (some .int) :: lw_g) ({ frames := 3, cells := 0, slots := 0, locals := 64 } : Room) (fPre Γ [.ref (Γ.1 164), .int x1, .int x2] σ) (fQi Γ r σ') 0 0 (fAd Γ) := by
  refine fl_enter (own := RX8) hI (by decide +kernel) rfl (Nat.le_of_ble_eq_true rfl) ?_
  intro p e s m args below meth c ls C hl hP hS
  have hl : lv_has ls 3 [(0, .ref (Γ.1 164)), (1, .int x1), (2, .int x2)] := hl
  obtain ⟨H, hH⟩ : ∃ H, H = s.heap := ⟨_, rfl⟩
  obtain ⟨locs, hL⟩ : ∃ L : List Loc, L = [] := ⟨_, rfl⟩
  have hP : fH Γ σ H := by rw [hH]; exact hP
  have hS : va_S (fAd Γ) s.heap H locs := by rw [hH, hL]; exact hS
  suffices hw : W p l e ({ frames := 3, cells := 0, slots := 0, locals := 64 } : Room) s m args below meth c H locs 0 0 (MQ below (fQi Γ r σ') args s 0 0 (fAd Γ)) (F0 m 0 ls []) by rw [hH, hL] at hw; exact hw
  unfold f_X8_setWind at hf
  refine lv_aload_n C.1 C.2.1 (kd kX8_setWind_0 0 rfl) rfl (lv_at hl 0 rfl) ?_
  obtain ⟨σ1, hσ1, hf⟩ := fcallv_some hf
  refine fl_v hS (fl_runV (As := []) (rest := []) C hP rfl (Nat.le_of_ble_eq_true rfl) rfl (m_X8_remembers C.2.2.2.2.2.2.2.2 l  hσ1) (fgV tw_960 tw_962 tw_20 tw_75 tw_963) hd_X8_remembers ⟨rfl, rfl, Nat.le_of_ble_eq_true rfl, Nat.le_of_ble_eq_true rfl⟩ rfl hl.1 rfl (Nat.le_of_ble_eq_true rfl) (kd kX8_setWind_0 1 rfl)) (fun H locs hP hS => ?_)
  refine lv_aload_n C.1 C.2.1 (kd kX8_setWind_0 2 rfl) rfl (lv_at hl 0 rfl) ?_
  refine lv_aload_n C.1 C.2.1 (kd kX8_setWind_0 3 rfl) rfl (lv_at hl 0 rfl) ?_
  refine lv_iload_n C.1 C.2.1 (kd kX8_setWind_0 4 rfl) rfl (lv_at hl 1 rfl) ?_
  refine lv_iload_n C.1 C.2.1 (kd kX8_setWind_0 5 rfl) rfl (lv_at hl 2 rfl) ?_
  obtain ⟨r2_, σ2, hσ2, hf⟩ := fcall_some hf
  refine fl_i hS (fl_runV (As := [.int x1, .int x2]) (rest := [.ref (Γ.1 164)]) C hP rfl (Nat.le_of_ble_eq_true rfl) rfl (m_X8_setsWind C.2.2.2.2.2.2.2.2 l  hσ2) (fgV tw_1050 tw_1052 tw_33 tw_75 tw_1053) hd_X8_setsWind ⟨rfl, rfl, Nat.le_of_ble_eq_true rfl, Nat.le_of_ble_eq_true rfl⟩ rfl hl.1 rfl (Nat.le_of_ble_eq_true rfl) (kd kX8_setWind_0 6 rfl)) (fun H locs hP hS => ?_)
  obtain ⟨r3_, σ3, hσ3, hf⟩ := fcall_some hf
  refine fl_i hS (fl_runV (As := [.int r2_]) (rest := []) C hP rfl (Nat.le_of_ble_eq_true rfl) rfl (m_X8_kept C.2.2.2.2.2.2.2.2 l  hσ3) (fgV tw_971 tw_973 tw_22 tw_75 tw_974) hd_X8_kept ⟨rfl, rfl, Nat.le_of_ble_eq_true rfl, Nat.le_of_ble_eq_true rfl⟩ rfl hl.1 rfl (Nat.le_of_ble_eq_true rfl) (kd kX8_setWind_0 7 rfl)) (fun H locs hP hS => ?_)
  exact fl_iret C hP hS hf (kd kX8_setWind_0 8 rfl)
def f_X8_setMargin (x1 : Int32) (σ : fS) : Option (Int32 × fS) := fcall (f_X8_in x1 (0 : Int32) (200 : Int32) σ) (fun r1_ σ1 => (if r1_ = 0 then some ((-10002 : Int32), σ1) else fcallv (f_X8_remembers σ1) (fun σ2 => fb (97 : Int32) 277 (fb (97 : Int32) 277 (fL (fu σ2 165 (97 : Int32).toNatClampNeg x1) (fun σ3 => fcall (f_X8_kept (σ2 165 (97 : Int32).toNatClampNeg) σ3) (fun r4_ σ4 => some (r4_, σ4))))))))
set_option maxRecDepth 100000 in
set_option maxHeartbeats 4000000 in
theorem m_X8_setMargin {Γ : fGm} (hI : fI Γ) (l : Launch) {x1 : Int32} {σ : fS} {r : Int32} {σ' : fS} (hf : f_X8_setMargin x1 σ = some (r, σ')) : Met l yX8_setMargin (.code yX8_setMargin cX8_setMargin 3 (some .int) :: lw_g) ({ frames := 3, cells := 0, slots := 0, locals := 64 } : Room) (fPre Γ [.ref (Γ.1 164), .int x1] σ) (fQi Γ r σ') 0 0 (fAd Γ) := by
  refine fl_enter (own := RX8) hI (by decide +kernel) rfl (Nat.le_of_ble_eq_true rfl) ?_
  intro p e s m args below meth c ls C hl hP hS
  have hl : lv_has ls 3 [(0, .ref (Γ.1 164)), (1, .int x1)] := hl
  obtain ⟨H, hH⟩ : ∃ H, H = s.heap := ⟨_, rfl⟩
  obtain ⟨locs, hL⟩ : ∃ L : List Loc, L = [] := ⟨_, rfl⟩
  have hP : fH Γ σ H := by rw [hH]; exact hP
  have hS : va_S (fAd Γ) s.heap H locs := by rw [hH, hL]; exact hS
  suffices hw : W p l e ({ frames := 3, cells := 0, slots := 0, locals := 64 } : Room) s m args below meth c H locs 0 0 (MQ below (fQi Γ r σ') args s 0 0 (fAd Γ)) (F0 m 0 ls []) by rw [hH, hL] at hw; exact hw
  unfold f_X8_setMargin at hf
  refine lv_iload_n C.1 C.2.1 (kd kX8_setMargin_0 0 rfl) rfl (lv_at hl 1 rfl) ?_
  refine lv_iconst (v := (0 : Int32)) C.1 C.2.1 (kd kX8_setMargin_0 1 rfl) (by decide) ?_
  refine lv_sipush (v := (200 : Int32)) C.1 C.2.1 (kd kX8_setMargin_0 2 rfl) (by decide) ?_
  obtain ⟨r1_, σ1, hσ1, hf⟩ := fcall_some hf
  refine fl_i hS (fl_runS (As := [.int x1, .int (0 : Int32), .int (200 : Int32)]) (rest := []) C hP (m_X8_in C.2.2.2.2.2.2.2.2 l  hσ1) (fgS tw_968 tw_969 tw_75 tw_970) hs_X8_in ⟨rfl, rfl, Nat.le_of_ble_eq_true rfl, Nat.le_of_ble_eq_true rfl⟩ rfl hl.1 rfl (Nat.le_of_ble_eq_true rfl) (kd kX8_setMargin_0 3 rfl)) (fun H locs hP hS => ?_)
  refine lv_if_ne (tgt := 15) C.1 C.2.1 (kd kX8_setMargin_0 4 rfl) (by decide) (fun q => ?_) (fun q => ?_)
  · have hf := fif_neg q hf
    refine lv_aload_n C.1 C.2.1 (kd kX8_setMargin_0 7 rfl) rfl (lv_at hl 0 rfl) ?_
    obtain ⟨σ2, hσ2, hf⟩ := fcallv_some hf
    refine fl_v hS (fl_runV (As := []) (rest := []) C hP rfl (Nat.le_of_ble_eq_true rfl) rfl (m_X8_remembers C.2.2.2.2.2.2.2.2 l  hσ2) (fgV tw_960 tw_962 tw_20 tw_75 tw_963) hd_X8_remembers ⟨rfl, rfl, Nat.le_of_ble_eq_true rfl, Nat.le_of_ble_eq_true rfl⟩ rfl hl.1 rfl (Nat.le_of_ble_eq_true rfl) (kd kX8_setMargin_0 8 rfl)) (fun H locs hP hS => ?_)
    refine lv_aload_n C.1 C.2.1 (kd kX8_setMargin_0 9 rfl) rfl (lv_at hl 0 rfl) ?_
    refine fl_get (j := 0) (v := .ref (Γ.1 165)) C hP rfl (Nat.le_of_ble_eq_true rfl) rfl inX8 (Nat.le_of_ble_eq_true rfl) tw_862 rfl (kd kX8_setMargin_0 10 rfl) ?_
    refine lv_bipush (v := (97 : Int32)) C.1 C.2.1 (kd kX8_setMargin_0 11 rfl) (by decide) ?_
    obtain ⟨hq, hf⟩ := fb_some hf
    refine fl_iald C hP rfl hq (kd kX8_setMargin_0 12 rfl) ?_
    refine lv_istore_n (lv' := [(2, .int (σ2 165 (97 : Int32).toNatClampNeg)), (0, .ref (Γ.1 164)), (1, .int x1)]) C.1 C.2.1 (kd kX8_setMargin_0 13 rfl) rfl hl (Nat.le_of_ble_eq_true rfl) rfl (fun ls hl => ?_)
    refine lv_aload_n C.1 C.2.1 (kd kX8_setMargin_0 14 rfl) rfl (lv_at hl 1 rfl) ?_
    refine fl_get (j := 0) (v := .ref (Γ.1 165)) C hP rfl (Nat.le_of_ble_eq_true rfl) rfl inX8 (Nat.le_of_ble_eq_true rfl) tw_862 rfl (kd kX8_setMargin_0 15 rfl) ?_
    refine lv_bipush (v := (97 : Int32)) C.1 C.2.1 (kd kX8_setMargin_0 16 rfl) (by decide) ?_
    refine lv_iload_n C.1 C.2.1 (kd kX8_setMargin_0 17 rfl) rfl (lv_at hl 2 rfl) ?_
    obtain ⟨hq, hf⟩ := fb_some hf
    obtain ⟨σ3, eσ3, hf⟩ := fL_some hf
    refine fl_iast C hP hS rfl hq (kd kX8_setMargin_0 18 rfl) (fun H locs hP hS => ?_)
    have hP : fH Γ σ3 H := by rw [eσ3]; exact hP
    refine lv_aload_n C.1 C.2.1 (kd kX8_setMargin_0 19 rfl) rfl (lv_at hl 1 rfl) ?_
    refine lv_iload_n C.1 C.2.1 (kd kX8_setMargin_0 20 rfl) rfl (lv_at hl 0 rfl) ?_
    obtain ⟨r4_, σ4, hσ4, hf⟩ := fcall_some hf
    refine fl_i hS (fl_runV (As := [.int (σ2 165 (97 : Int32).toNatClampNeg)]) (rest := []) C hP rfl (Nat.le_of_ble_eq_true rfl) rfl (m_X8_kept C.2.2.2.2.2.2.2.2 l  hσ4) (fgV tw_971 tw_973 tw_22 tw_75 tw_974) hd_X8_kept ⟨rfl, rfl, Nat.le_of_ble_eq_true rfl, Nat.le_of_ble_eq_true rfl⟩ rfl hl.1 rfl (Nat.le_of_ble_eq_true rfl) (kd kX8_setMargin_0 21 rfl)) (fun H locs hP hS => ?_)
    exact fl_iret C hP hS hf (kd kX8_setMargin_0 22 rfl)
  have hf := fif_pos q hf
  refine lv_sipush (v := (-10002 : Int32)) C.1 C.2.1 (kd kX8_setMargin_0 5 rfl) (by decide) ?_
  exact fl_iret C hP hS hf (kd kX8_setMargin_0 6 rfl)
def f_X8_append_b50 (K5 : Int32 → Int32 → Int32 → fS → Option (Int32 × fS)) (v1 : Int32) (v3 : Int32) (s0 : Int32) (s1 : Int32) (σ : fS) : Option (Int32 × fS) := K5 (v1) ((s1 + s0)) ((v3 + (-8 : Int32))) σ
set_option maxRecDepth 100000 in
set_option maxHeartbeats 4000000 in
theorem w_X8_append_b50 {r : Int32} {σ' : fS} {K5 : Int32 → Int32 → Int32 → fS → Option (Int32 × fS)}  (C : fC Γ p s m args meth c cX8_append (some .int) RX8 5) (hK5 : ∀ (v1 : Int32) (v2 : Int32) (v3 : Int32) (σ : fS) (H : Heap) (locs : List Loc) (ls : Array Slot), K5 v1 v2 v3 σ = some (r, σ') → fH Γ σ H → va_S (fAd Γ) s.heap H locs → lv_has ls 5 [(0, .ref (Γ.1 164)), (1, .int v1), (2, .int v2), (3, .int v3)] → W p l e ({ frames := 1, cells := 0, slots := 0, locals := 22 } : Room) s m args below meth c H locs 0 0 (MQ below (fQi Γ r σ') args s 0 0 (fAd Γ)) (F0 m 5 ls [])) : ∀ (v1 : Int32) (v3 : Int32) (s0 : Int32) (s1 : Int32) (σ : fS) (H : Heap) (locs : List Loc) (ls : Array Slot), f_X8_append_b50 K5 v1 v3 s0 s1 σ = some (r, σ') → fH Γ σ H → va_S (fAd Γ) s.heap H locs → lv_has ls 5 [(0, .ref (Γ.1 164)), (1, .int v1), (3, .int v3)] → W p l e ({ frames := 1, cells := 0, slots := 0, locals := 22 } : Room) s m args below meth c H locs 0 0 (MQ below (fQi Γ r σ') args s 0 0 (fAd Γ)) (F0 m 50 ls [.int s0, .int s1]) := by
  intro v1 v3 s0 s1 σ H locs ls hf hP hS hl
  unfold f_X8_append_b50 at hf
  refine lv_iadd C.1 C.2.1 (kd kX8_append_0 27 rfl) ?_
  refine lv_istore_n (lv' := [(2, .int (s1 + s0)), (0, .ref (Γ.1 164)), (1, .int v1), (3, .int v3)]) C.1 C.2.1 (kd kX8_append_0 28 rfl) rfl hl (Nat.le_of_ble_eq_true rfl) rfl (fun ls hl => ?_)
  refine lv_iinc (v := (v3 + (-8 : Int32))) (lv' := [(3, .int (v3 + (-8 : Int32))), (2, .int (s1 + s0)), (0, .ref (Γ.1 164)), (1, .int v1)]) C.1 C.2.1 (kd kX8_append_0 29 rfl) hl (k := 3) rfl rfl (Nat.le_of_ble_eq_true rfl) rfl (fun ls hl => ?_)
  refine lv_goto (tgt := 5) C.1 C.2.1 (kd kX8_append_0 30 rfl) (by decide) ?_
  exact hK5 (v1) ((s1 + s0)) ((v3 + (-8 : Int32))) σ H locs ls hf hP hS (lv_sub hl [2, 3, 1, 0] rfl)
def f_X8_append_b39 (K5 : Int32 → Int32 → Int32 → fS → Option (Int32 × fS)) (v1 : Int32) (v2 : Int32) (v3 : Int32) (v4 : Int32) (σ : fS) : Option (Int32 × fS) := (if v4 = 0 then f_X8_append_b50 K5 (v1) (v3) ((0 : Int32)) (v2) σ else f_X8_append_b50 K5 (v1) (v3) ((1 : Int32)) (v2) σ)
set_option maxRecDepth 100000 in
set_option maxHeartbeats 4000000 in
theorem w_X8_append_b39 {r : Int32} {σ' : fS} {K5 : Int32 → Int32 → Int32 → fS → Option (Int32 × fS)}  (C : fC Γ p s m args meth c cX8_append (some .int) RX8 5) (hK5 : ∀ (v1 : Int32) (v2 : Int32) (v3 : Int32) (σ : fS) (H : Heap) (locs : List Loc) (ls : Array Slot), K5 v1 v2 v3 σ = some (r, σ') → fH Γ σ H → va_S (fAd Γ) s.heap H locs → lv_has ls 5 [(0, .ref (Γ.1 164)), (1, .int v1), (2, .int v2), (3, .int v3)] → W p l e ({ frames := 1, cells := 0, slots := 0, locals := 22 } : Room) s m args below meth c H locs 0 0 (MQ below (fQi Γ r σ') args s 0 0 (fAd Γ)) (F0 m 5 ls [])) : ∀ (v1 : Int32) (v2 : Int32) (v3 : Int32) (v4 : Int32) (σ : fS) (H : Heap) (locs : List Loc) (ls : Array Slot), f_X8_append_b39 K5 v1 v2 v3 v4 σ = some (r, σ') → fH Γ σ H → va_S (fAd Γ) s.heap H locs → lv_has ls 5 [(0, .ref (Γ.1 164)), (1, .int v1), (2, .int v2), (3, .int v3), (4, .int v4)] → W p l e ({ frames := 1, cells := 0, slots := 0, locals := 22 } : Room) s m args below meth c H locs 0 0 (MQ below (fQi Γ r σ') args s 0 0 (fAd Γ)) (F0 m 39 ls []) := by
  intro v1 v2 v3 v4 σ H locs ls hf hP hS hl
  unfold f_X8_append_b39 at hf
  refine lv_iload_n C.1 C.2.1 (kd kX8_append_0 21 rfl) rfl (lv_at hl 2 rfl) ?_
  refine lv_iload C.1 C.2.1 (kd kX8_append_0 22 rfl) (lv_at hl 4 rfl) ?_
  refine lv_if_eq (tgt := 49) C.1 C.2.1 (kd kX8_append_0 23 rfl) (by decide) (fun q => ?_) (fun q => ?_)
  · have hf := fif_pos q hf
    refine lv_iconst (v := (0 : Int32)) C.1 C.2.1 (kd kX8_append_0 26 rfl) (by decide) ?_
    exact w_X8_append_b50 C hK5 (v1) (v3) ((0 : Int32)) (v2) σ H locs ls hf hP hS (lv_sub hl [0, 1, 3] rfl)
  have hf := fif_neg q hf
  refine lv_iconst (v := (1 : Int32)) C.1 C.2.1 (kd kX8_append_0 24 rfl) (by decide) ?_
  refine lv_goto (tgt := 50) C.1 C.2.1 (kd kX8_append_0 25 rfl) (by decide) ?_
  exact w_X8_append_b50 C hK5 (v1) (v3) ((1 : Int32)) (v2) σ H locs ls hf hP hS (lv_sub hl [0, 1, 3] rfl)
def f_X8_append_b116 (K76 : Int32 → Int32 → fS → Option (Int32 × fS)) (v1 : Int32) (v3 : Int32) (σ : fS) : Option (Int32 × fS) := K76 (v1) ((v3 + (-8 : Int32))) σ
set_option maxRecDepth 100000 in
set_option maxHeartbeats 4000000 in
theorem w_X8_append_b116 {r : Int32} {σ' : fS} {K76 : Int32 → Int32 → fS → Option (Int32 × fS)}  (C : fC Γ p s m args meth c cX8_append (some .int) RX8 5) (hK76 : ∀ (v1 : Int32) (v3 : Int32) (σ : fS) (H : Heap) (locs : List Loc) (ls : Array Slot), K76 v1 v3 σ = some (r, σ') → fH Γ σ H → va_S (fAd Γ) s.heap H locs → lv_has ls 5 [(0, .ref (Γ.1 164)), (1, .int v1), (3, .int v3)] → W p l e ({ frames := 1, cells := 0, slots := 0, locals := 22 } : Room) s m args below meth c H locs 0 0 (MQ below (fQi Γ r σ') args s 0 0 (fAd Γ)) (F0 m 76 ls [])) : ∀ (v1 : Int32) (v3 : Int32) (σ : fS) (H : Heap) (locs : List Loc) (ls : Array Slot), f_X8_append_b116 K76 v1 v3 σ = some (r, σ') → fH Γ σ H → va_S (fAd Γ) s.heap H locs → lv_has ls 5 [(0, .ref (Γ.1 164)), (1, .int v1), (3, .int v3)] → W p l e ({ frames := 1, cells := 0, slots := 0, locals := 22 } : Room) s m args below meth c H locs 0 0 (MQ below (fQi Γ r σ') args s 0 0 (fAd Γ)) (F0 m 116 ls []) := by
  intro v1 v3 σ H locs ls hf hP hS hl
  unfold f_X8_append_b116 at hf
  refine lv_iinc (v := (v3 + (-8 : Int32))) (lv' := [(3, .int (v3 + (-8 : Int32))), (0, .ref (Γ.1 164)), (1, .int v1)]) C.1 C.2.1 (kd kX8_append_1 4 rfl) hl (k := 2) rfl rfl (Nat.le_of_ble_eq_true rfl) rfl (fun ls hl => ?_)
  refine lv_goto (tgt := 76) C.1 C.2.1 (kd kX8_append_1 5 rfl) (by decide) ?_
  exact hK76 (v1) ((v3 + (-8 : Int32))) σ H locs ls hf hP hS (lv_sub hl [1, 2, 0] rfl)
def f_X8_append_b76 : Nat → Int32 → Int32 → fS → Option (Int32 × fS)
  | 0, _, _, _ => none
  | n_ + 1, v1, v3, σ => (if v3 < 0 then some ((σ 164 7), σ) else (if (((v1.toUInt32 >>> (v3.toUInt32 &&& Int32.toUInt32 31)).toInt32) &&& (255 : Int32)) = 0 then f_X8_append_b116 (fun v1 v3 σ => f_X8_append_b76 n_ v1 v3 σ) (v1) (v3) σ else fb (σ 164 7) 60 (fL (fu σ 169 (σ 164 7).toNatClampNeg (vp_nar .char (((((v1.toUInt32 >>> (v3.toUInt32 &&& Int32.toUInt32 31)).toInt32) &&& (255 : Int32)).toUInt32 % 65536).toInt32))) (fun σ1 => fL (fu σ1 164 7 ((σ1 164 7) + (1 : Int32))) (fun σ2 => f_X8_append_b116 (fun v1 v3 σ => f_X8_append_b76 n_ v1 v3 σ) (v1) (v3) σ2)))))
set_option maxRecDepth 100000 in
set_option maxHeartbeats 4000000 in
theorem w_X8_append_b76 {r : Int32} {σ' : fS}  (C : fC Γ p s m args meth c cX8_append (some .int) RX8 5) : ∀ (n_ : Nat) (v1 : Int32) (v3 : Int32) (σ : fS) (H : Heap) (locs : List Loc) (ls : Array Slot), f_X8_append_b76 n_ v1 v3 σ = some (r, σ') → fH Γ σ H → va_S (fAd Γ) s.heap H locs → lv_has ls 5 [(0, .ref (Γ.1 164)), (1, .int v1), (3, .int v3)] → W p l e ({ frames := 1, cells := 0, slots := 0, locals := 22 } : Room) s m args below meth c H locs 0 0 (MQ below (fQi Γ r σ') args s 0 0 (fAd Γ)) (F0 m 76 ls []) := by
  intro n_
  induction n_ with
  | zero =>
    intro v1 v3 σ H locs ls hf
    cases hf
  | succ n_ ih =>
    intro v1 v3 σ H locs ls hf hP hS hl
    have hf : (if v3 < 0 then some ((σ 164 7), σ) else (if (((v1.toUInt32 >>> (v3.toUInt32 &&& Int32.toUInt32 31)).toInt32) &&& (255 : Int32)) = 0 then f_X8_append_b116 (fun v1 v3 σ => f_X8_append_b76 n_ v1 v3 σ) (v1) (v3) σ else fb (σ 164 7) 60 (fL (fu σ 169 (σ 164 7).toNatClampNeg (vp_nar .char (((((v1.toUInt32 >>> (v3.toUInt32 &&& Int32.toUInt32 31)).toInt32) &&& (255 : Int32)).toUInt32 % 65536).toInt32))) (fun σ1 => fL (fu σ1 164 7 ((σ1 164 7) + (1 : Int32))) (fun σ2 => f_X8_append_b116 (fun v1 v3 σ => f_X8_append_b76 n_ v1 v3 σ) (v1) (v3) σ2))))) = some (r, σ') := hf
    have hK76 := ih
    refine lv_iload_n C.1 C.2.1 (kd kX8_append_0 41 rfl) rfl (lv_at hl 2 rfl) ?_
    refine lv_if_lt (tgt := 122) C.1 C.2.1 (kd kX8_append_0 42 rfl) (by decide) (fun q => ?_) (fun q => ?_)
    · have hf := fif_pos q hf
      refine lv_aload_n C.1 C.2.1 (kd kX8_append_1 6 rfl) rfl (lv_at hl 0 rfl) ?_
      refine fl_get (j := 7) (v := .int (σ 164 7)) C hP rfl (Nat.le_of_ble_eq_true rfl) rfl inX8 (Nat.le_of_ble_eq_true rfl) tw_869 rfl (kd kX8_append_1 7 rfl) ?_
      exact fl_iret C hP hS hf (kd kX8_append_1 8 rfl)
    have hf := fif_neg q hf
    refine lv_iload_n C.1 C.2.1 (kd kX8_append_0 43 rfl) rfl (lv_at hl 1 rfl) ?_
    refine lv_iload_n C.1 C.2.1 (kd kX8_append_0 44 rfl) rfl (lv_at hl 2 rfl) ?_
    refine lv_iushr (v := (v1.toUInt32 >>> (v3.toUInt32 &&& Int32.toUInt32 31)).toInt32) C.1 C.2.1 (kd kX8_append_0 45 rfl) rfl ?_
    refine lv_sipush (v := (255 : Int32)) C.1 C.2.1 (kd kX8_append_0 46 rfl) (by decide) ?_
    refine lv_iand C.1 C.2.1 (kd kX8_append_0 47 rfl) ?_
    refine lv_istore (lv' := [(4, .int (((v1.toUInt32 >>> (v3.toUInt32 &&& Int32.toUInt32 31)).toInt32) &&& (255 : Int32))), (0, .ref (Γ.1 164)), (1, .int v1), (3, .int v3)]) C.1 C.2.1 (kd kX8_append_0 48 rfl) hl (Nat.le_of_ble_eq_true rfl) rfl (fun ls hl => ?_)
    refine lv_iload C.1 C.2.1 (kd kX8_append_0 49 rfl) (lv_at hl 0 rfl) ?_
    refine lv_if_eq (tgt := 116) C.1 C.2.1 (kd kX8_append_0 50 rfl) (by decide) (fun q => ?_) (fun q => ?_)
    · have hf := fif_pos q hf
      exact w_X8_append_b116 C hK76 (v1) (v3) σ H locs ls hf hP hS (lv_sub hl [1, 2, 3] rfl)
    have hf := fif_neg q hf
    refine lv_aload_n C.1 C.2.1 (kd kX8_append_0 51 rfl) rfl (lv_at hl 1 rfl) ?_
    refine fl_get (j := 6) (v := .ref (Γ.1 169)) C hP rfl (Nat.le_of_ble_eq_true rfl) rfl inX8 (Nat.le_of_ble_eq_true rfl) tw_868 rfl (kd kX8_append_0 52 rfl) ?_
    refine lv_aload_n C.1 C.2.1 (kd kX8_append_0 53 rfl) rfl (lv_at hl 1 rfl) ?_
    refine fl_get (j := 7) (v := .int (σ 164 7)) C hP rfl (Nat.le_of_ble_eq_true rfl) rfl inX8 (Nat.le_of_ble_eq_true rfl) tw_869 rfl (kd kX8_append_0 54 rfl) ?_
    refine lv_iload C.1 C.2.1 (kd kX8_append_0 55 rfl) (lv_at hl 0 rfl) ?_
    refine lv_i2c (v := ((((v1.toUInt32 >>> (v3.toUInt32 &&& Int32.toUInt32 31)).toInt32) &&& (255 : Int32)).toUInt32 % 65536).toInt32) C.1 C.2.1 (kd kX8_append_0 56 rfl) rfl ?_
    obtain ⟨hq, hf⟩ := fb_some hf
    obtain ⟨σ1, eσ1, hf⟩ := fL_some hf
    refine fl_cast C hP hS rfl hq (kd kX8_append_0 57 rfl) (fun H locs hP hS => ?_)
    have hP : fH Γ σ1 H := by rw [eσ1]; exact hP
    refine lv_aload_n C.1 C.2.1 (kd kX8_append_0 58 rfl) rfl (lv_at hl 1 rfl) ?_
    refine lv_dup C.1 C.2.1 (kd kX8_append_0 59 rfl) rfl ?_
    refine fl_get (j := 7) (v := .int (σ1 164 7)) C hP rfl (Nat.le_of_ble_eq_true rfl) rfl inX8 (Nat.le_of_ble_eq_true rfl) tw_869 rfl (kd kX8_append_1 0 rfl) ?_
    refine lv_iconst (v := (1 : Int32)) C.1 C.2.1 (kd kX8_append_1 1 rfl) (by decide) ?_
    refine lv_iadd C.1 C.2.1 (kd kX8_append_1 2 rfl) ?_
    obtain ⟨σ2, eσ2, hf⟩ := fL_some hf
    refine fl_put (j := 7) C hP hS rfl rfl (Nat.le_of_ble_eq_true rfl) rfl inX8 tyX8 tyX8_ok nmX8 (Nat.le_of_ble_eq_true rfl) tw_869 rfl rfl rfl (Nat.le_of_ble_eq_true rfl) (kd kX8_append_1 3 rfl) (fun H locs hP hS => ?_)
    have hP : fH Γ σ2 H := by rw [eσ2]; exact hP
    exact w_X8_append_b116 C hK76 (v1) (v3) σ2 H locs ls hf hP hS (lv_sub hl [1, 2, 3] rfl)
def f_X8_append_b5 : Nat → Int32 → Int32 → Int32 → fS → Option (Int32 × fS)
  | 0, _, _, _, _ => none
  | n_ + 1, v1, v2, v3, σ => (if v3 < 0 then (if ((σ 164 7) + v2) ≤ (60 : Int32) then f_X8_append_b76 fN (v1) ((24 : Int32)) σ else some ((-10003 : Int32), σ)) else (if (((v1.toUInt32 >>> (v3.toUInt32 &&& Int32.toUInt32 31)).toInt32) &&& (255 : Int32)) = 0 then f_X8_append_b39 (fun v1 v2 v3 σ => f_X8_append_b5 n_ v1 v2 v3 σ) (v1) (v2) (v3) ((((v1.toUInt32 >>> (v3.toUInt32 &&& Int32.toUInt32 31)).toInt32) &&& (255 : Int32))) σ else fcall (f_X8_in (((v1.toUInt32 >>> (v3.toUInt32 &&& Int32.toUInt32 31)).toInt32) &&& (255 : Int32)) (33 : Int32) (126 : Int32) σ) (fun r1_ σ1 => (if r1_ = 0 then some ((-10002 : Int32), σ1) else f_X8_append_b39 (fun v1 v2 v3 σ => f_X8_append_b5 n_ v1 v2 v3 σ) (v1) (v2) (v3) ((((v1.toUInt32 >>> (v3.toUInt32 &&& Int32.toUInt32 31)).toInt32) &&& (255 : Int32))) σ1))))
set_option maxRecDepth 100000 in
set_option maxHeartbeats 4000000 in
theorem w_X8_append_b5 {r : Int32} {σ' : fS}  (C : fC Γ p s m args meth c cX8_append (some .int) RX8 5) : ∀ (n_ : Nat) (v1 : Int32) (v2 : Int32) (v3 : Int32) (σ : fS) (H : Heap) (locs : List Loc) (ls : Array Slot), f_X8_append_b5 n_ v1 v2 v3 σ = some (r, σ') → fH Γ σ H → va_S (fAd Γ) s.heap H locs → lv_has ls 5 [(0, .ref (Γ.1 164)), (1, .int v1), (2, .int v2), (3, .int v3)] → W p l e ({ frames := 1, cells := 0, slots := 0, locals := 22 } : Room) s m args below meth c H locs 0 0 (MQ below (fQi Γ r σ') args s 0 0 (fAd Γ)) (F0 m 5 ls []) := by
  intro n_
  induction n_ with
  | zero =>
    intro v1 v2 v3 σ H locs ls hf
    cases hf
  | succ n_ ih =>
    intro v1 v2 v3 σ H locs ls hf hP hS hl
    have hf : (if v3 < 0 then (if ((σ 164 7) + v2) ≤ (60 : Int32) then f_X8_append_b76 fN (v1) ((24 : Int32)) σ else some ((-10003 : Int32), σ)) else (if (((v1.toUInt32 >>> (v3.toUInt32 &&& Int32.toUInt32 31)).toInt32) &&& (255 : Int32)) = 0 then f_X8_append_b39 (fun v1 v2 v3 σ => f_X8_append_b5 n_ v1 v2 v3 σ) (v1) (v2) (v3) ((((v1.toUInt32 >>> (v3.toUInt32 &&& Int32.toUInt32 31)).toInt32) &&& (255 : Int32))) σ else fcall (f_X8_in (((v1.toUInt32 >>> (v3.toUInt32 &&& Int32.toUInt32 31)).toInt32) &&& (255 : Int32)) (33 : Int32) (126 : Int32) σ) (fun r1_ σ1 => (if r1_ = 0 then some ((-10002 : Int32), σ1) else f_X8_append_b39 (fun v1 v2 v3 σ => f_X8_append_b5 n_ v1 v2 v3 σ) (v1) (v2) (v3) ((((v1.toUInt32 >>> (v3.toUInt32 &&& Int32.toUInt32 31)).toInt32) &&& (255 : Int32))) σ1)))) = some (r, σ') := hf
    have hK5 := ih
    refine lv_iload_n C.1 C.2.1 (kd kX8_append_0 4 rfl) rfl (lv_at hl 3 rfl) ?_
    refine lv_if_lt (tgt := 58) C.1 C.2.1 (kd kX8_append_0 5 rfl) (by decide) (fun q => ?_) (fun q => ?_)
    · have hf := fif_pos q hf
      refine lv_aload_n C.1 C.2.1 (kd kX8_append_0 31 rfl) rfl (lv_at hl 0 rfl) ?_
      refine fl_get (j := 7) (v := .int (σ 164 7)) C hP rfl (Nat.le_of_ble_eq_true rfl) rfl inX8 (Nat.le_of_ble_eq_true rfl) tw_869 rfl (kd kX8_append_0 32 rfl) ?_
      refine lv_iload_n C.1 C.2.1 (kd kX8_append_0 33 rfl) rfl (lv_at hl 2 rfl) ?_
      refine lv_iadd C.1 C.2.1 (kd kX8_append_0 34 rfl) ?_
      refine lv_bipush (v := (60 : Int32)) C.1 C.2.1 (kd kX8_append_0 35 rfl) (by decide) ?_
      refine lv_icmp_le (tgt := 73) C.1 C.2.1 (kd kX8_append_0 36 rfl) (by decide) (fun q => ?_) (fun q => ?_)
      · have hf := fif_pos q hf
        refine lv_bipush (v := (24 : Int32)) C.1 C.2.1 (kd kX8_append_0 39 rfl) (by decide) ?_
        refine lv_istore_n (lv' := [(3, .int (24 : Int32)), (0, .ref (Γ.1 164)), (1, .int v1), (2, .int v2)]) C.1 C.2.1 (kd kX8_append_0 40 rfl) rfl hl (Nat.le_of_ble_eq_true rfl) rfl (fun ls hl => ?_)
        exact w_X8_append_b76 C fN (v1) ((24 : Int32)) σ H locs ls hf hP hS (lv_sub hl [1, 2, 0] rfl)
      have hf := fif_neg q hf
      refine lv_sipush (v := (-10003 : Int32)) C.1 C.2.1 (kd kX8_append_0 37 rfl) (by decide) ?_
      exact fl_iret C hP hS hf (kd kX8_append_0 38 rfl)
    have hf := fif_neg q hf
    refine lv_iload_n C.1 C.2.1 (kd kX8_append_0 6 rfl) rfl (lv_at hl 1 rfl) ?_
    refine lv_iload_n C.1 C.2.1 (kd kX8_append_0 7 rfl) rfl (lv_at hl 3 rfl) ?_
    refine lv_iushr (v := (v1.toUInt32 >>> (v3.toUInt32 &&& Int32.toUInt32 31)).toInt32) C.1 C.2.1 (kd kX8_append_0 8 rfl) rfl ?_
    refine lv_sipush (v := (255 : Int32)) C.1 C.2.1 (kd kX8_append_0 9 rfl) (by decide) ?_
    refine lv_iand C.1 C.2.1 (kd kX8_append_0 10 rfl) ?_
    refine lv_istore (lv' := [(4, .int (((v1.toUInt32 >>> (v3.toUInt32 &&& Int32.toUInt32 31)).toInt32) &&& (255 : Int32))), (0, .ref (Γ.1 164)), (1, .int v1), (2, .int v2), (3, .int v3)]) C.1 C.2.1 (kd kX8_append_0 11 rfl) hl (Nat.le_of_ble_eq_true rfl) rfl (fun ls hl => ?_)
    refine lv_iload C.1 C.2.1 (kd kX8_append_0 12 rfl) (lv_at hl 0 rfl) ?_
    refine lv_if_eq (tgt := 39) C.1 C.2.1 (kd kX8_append_0 13 rfl) (by decide) (fun q => ?_) (fun q => ?_)
    · have hf := fif_pos q hf
      exact w_X8_append_b39 C hK5 (v1) (v2) (v3) ((((v1.toUInt32 >>> (v3.toUInt32 &&& Int32.toUInt32 31)).toInt32) &&& (255 : Int32))) σ H locs ls hf hP hS (lv_sub hl [1, 2, 3, 4, 0] rfl)
    have hf := fif_neg q hf
    refine lv_iload C.1 C.2.1 (kd kX8_append_0 14 rfl) (lv_at hl 0 rfl) ?_
    refine lv_bipush (v := (33 : Int32)) C.1 C.2.1 (kd kX8_append_0 15 rfl) (by decide) ?_
    refine lv_bipush (v := (126 : Int32)) C.1 C.2.1 (kd kX8_append_0 16 rfl) (by decide) ?_
    obtain ⟨r1_, σ1, hσ1, hf⟩ := fcall_some hf
    refine fl_i hS (fl_runS (As := [.int (((v1.toUInt32 >>> (v3.toUInt32 &&& Int32.toUInt32 31)).toInt32) &&& (255 : Int32)), .int (33 : Int32), .int (126 : Int32)]) (rest := []) C hP (m_X8_in C.2.2.2.2.2.2.2.2 l  hσ1) (fgS tw_968 tw_969 tw_75 tw_970) hs_X8_in ⟨rfl, rfl, Nat.le_of_ble_eq_true rfl, Nat.le_of_ble_eq_true rfl⟩ rfl hl.1 rfl (Nat.le_of_ble_eq_true rfl) (kd kX8_append_0 17 rfl)) (fun H locs hP hS => ?_)
    refine lv_if_ne (tgt := 39) C.1 C.2.1 (kd kX8_append_0 18 rfl) (by decide) (fun q => ?_) (fun q => ?_)
    · have hf := fif_neg q hf
      exact w_X8_append_b39 C hK5 (v1) (v2) (v3) ((((v1.toUInt32 >>> (v3.toUInt32 &&& Int32.toUInt32 31)).toInt32) &&& (255 : Int32))) σ1 H locs ls hf hP hS (lv_sub hl [1, 2, 3, 4, 0] rfl)
    have hf := fif_pos q hf
    refine lv_sipush (v := (-10002 : Int32)) C.1 C.2.1 (kd kX8_append_0 19 rfl) (by decide) ?_
    exact fl_iret C hP hS hf (kd kX8_append_0 20 rfl)
def f_X8_append (x1 : Int32) (σ : fS) : Option (Int32 × fS) := f_X8_append_b5 fN (x1) ((0 : Int32)) ((24 : Int32)) σ
set_option maxRecDepth 100000 in
set_option maxHeartbeats 4000000 in
theorem m_X8_append {Γ : fGm} (hI : fI Γ) (l : Launch) {x1 : Int32} {σ : fS} {r : Int32} {σ' : fS} (hf : f_X8_append x1 σ = some (r, σ')) : Met l yX8_append (.code yX8_append cX8_append 5 (some .int) :: lw_g) ({ frames := 1, cells := 0, slots := 0, locals := 22 } : Room) (fPre Γ [.ref (Γ.1 164), .int x1] σ) (fQi Γ r σ') 0 0 (fAd Γ) := by
  refine fl_enter (own := RX8) hI (by decide +kernel) rfl (Nat.le_of_ble_eq_true rfl) ?_
  intro p e s m args below meth c ls C hl hP hS
  have hl : lv_has ls 5 [(0, .ref (Γ.1 164)), (1, .int x1)] := hl
  obtain ⟨H, hH⟩ : ∃ H, H = s.heap := ⟨_, rfl⟩
  obtain ⟨locs, hL⟩ : ∃ L : List Loc, L = [] := ⟨_, rfl⟩
  have hP : fH Γ σ H := by rw [hH]; exact hP
  have hS : va_S (fAd Γ) s.heap H locs := by rw [hH, hL]; exact hS
  suffices hw : W p l e ({ frames := 1, cells := 0, slots := 0, locals := 22 } : Room) s m args below meth c H locs 0 0 (MQ below (fQi Γ r σ') args s 0 0 (fAd Γ)) (F0 m 0 ls []) by rw [hH, hL] at hw; exact hw
  unfold f_X8_append at hf
  refine lv_iconst (v := (0 : Int32)) C.1 C.2.1 (kd kX8_append_0 0 rfl) (by decide) ?_
  refine lv_istore_n (lv' := [(2, .int (0 : Int32)), (0, .ref (Γ.1 164)), (1, .int x1)]) C.1 C.2.1 (kd kX8_append_0 1 rfl) rfl hl (Nat.le_of_ble_eq_true rfl) rfl (fun ls hl => ?_)
  refine lv_bipush (v := (24 : Int32)) C.1 C.2.1 (kd kX8_append_0 2 rfl) (by decide) ?_
  refine lv_istore_n (lv' := [(3, .int (24 : Int32)), (2, .int (0 : Int32)), (0, .ref (Γ.1 164)), (1, .int x1)]) C.1 C.2.1 (kd kX8_append_0 3 rfl) rfl hl (Nat.le_of_ble_eq_true rfl) rfl (fun ls hl => ?_)
  exact w_X8_append_b5 C fN (x1) ((0 : Int32)) ((24 : Int32)) σ H locs ls hf hP hS (lv_sub hl [2, 3, 1, 0] rfl)
def f_X8_eats (x1 : Int32) (σ : fS) : Option (Int32 × fS) := (if (σ 164 7) ≤ (σ 164 9) then some ((0 : Int32), σ) else fb (σ 164 9) 60 ((if (σ 169 (σ 164 9).toNatClampNeg) = x1 then fL (fu σ 164 9 ((σ 164 9) + (1 : Int32))) (fun σ1 => some ((1 : Int32), σ1)) else some ((0 : Int32), σ))))
set_option maxRecDepth 100000 in
set_option maxHeartbeats 4000000 in
theorem m_X8_eats {Γ : fGm} (hI : fI Γ) (l : Launch) {x1 : Int32} {σ : fS} {r : Int32} {σ' : fS} (hf : f_X8_eats x1 σ = some (r, σ')) : Met l yX8_eats (.code yX8_eats cX8_eats 2 (some .boolean) :: lw_g) ({ frames := 0, cells := 0, slots := 0, locals := 0 } : Room) (fPre Γ [.ref (Γ.1 164), .int x1] σ) (fQi Γ r σ') 0 0 (fAd Γ) := by
  refine fl_enter (own := RX8) hI (by decide +kernel) rfl (Nat.le_of_ble_eq_true rfl) ?_
  intro p e s m args below meth c ls C hl hP hS
  have hl : lv_has ls 2 [(0, .ref (Γ.1 164)), (1, .int x1)] := hl
  obtain ⟨H, hH⟩ : ∃ H, H = s.heap := ⟨_, rfl⟩
  obtain ⟨locs, hL⟩ : ∃ L : List Loc, L = [] := ⟨_, rfl⟩
  have hP : fH Γ σ H := by rw [hH]; exact hP
  have hS : va_S (fAd Γ) s.heap H locs := by rw [hH, hL]; exact hS
  suffices hw : W p l e ({ frames := 0, cells := 0, slots := 0, locals := 0 } : Room) s m args below meth c H locs 0 0 (MQ below (fQi Γ r σ') args s 0 0 (fAd Γ)) (F0 m 0 ls []) by rw [hH, hL] at hw; exact hw
  unfold f_X8_eats at hf
  refine lv_aload_n C.1 C.2.1 (kd kX8_eats_0 0 rfl) rfl (lv_at hl 0 rfl) ?_
  refine fl_get (j := 9) (v := .int (σ 164 9)) C hP rfl (Nat.le_of_ble_eq_true rfl) rfl inX8 (Nat.le_of_ble_eq_true rfl) tw_871 rfl (kd kX8_eats_0 1 rfl) ?_
  refine lv_aload_n C.1 C.2.1 (kd kX8_eats_0 2 rfl) rfl (lv_at hl 0 rfl) ?_
  refine fl_get (j := 7) (v := .int (σ 164 7)) C hP rfl (Nat.le_of_ble_eq_true rfl) rfl inX8 (Nat.le_of_ble_eq_true rfl) tw_869 rfl (kd kX8_eats_0 3 rfl) ?_
  refine lv_icmp_ge (tgt := 24) C.1 C.2.1 (kd kX8_eats_0 4 rfl) (by decide) (fun q => ?_) (fun q => ?_)
  · have hf := fif_pos q hf
    refine lv_iconst (v := (0 : Int32)) C.1 C.2.1 (kd kX8_eats_0 12 rfl) (by decide) ?_
    exact fl_zret C hP hS rfl hf (kd kX8_eats_0 13 rfl)
  have hf := fif_neg q hf
  refine lv_aload_n C.1 C.2.1 (kd kX8_eats_0 5 rfl) rfl (lv_at hl 0 rfl) ?_
  refine fl_get (j := 6) (v := .ref (Γ.1 169)) C hP rfl (Nat.le_of_ble_eq_true rfl) rfl inX8 (Nat.le_of_ble_eq_true rfl) tw_868 rfl (kd kX8_eats_0 6 rfl) ?_
  refine lv_aload_n C.1 C.2.1 (kd kX8_eats_0 7 rfl) rfl (lv_at hl 0 rfl) ?_
  refine fl_get (j := 9) (v := .int (σ 164 9)) C hP rfl (Nat.le_of_ble_eq_true rfl) rfl inX8 (Nat.le_of_ble_eq_true rfl) tw_871 rfl (kd kX8_eats_0 8 rfl) ?_
  obtain ⟨hq, hf⟩ := fb_some hf
  refine fl_cald C hP rfl hq (kd kX8_eats_0 9 rfl) ?_
  refine lv_iload_n C.1 C.2.1 (kd kX8_eats_0 10 rfl) rfl (lv_at hl 1 rfl) ?_
  refine lv_icmp_eq (tgt := 26) C.1 C.2.1 (kd kX8_eats_0 11 rfl) (by decide) (fun q => ?_) (fun q => ?_)
  · have hf := fif_pos q hf
    refine lv_aload_n C.1 C.2.1 (kd kX8_eats_0 14 rfl) rfl (lv_at hl 0 rfl) ?_
    refine lv_dup C.1 C.2.1 (kd kX8_eats_0 15 rfl) rfl ?_
    refine fl_get (j := 9) (v := .int (σ 164 9)) C hP rfl (Nat.le_of_ble_eq_true rfl) rfl inX8 (Nat.le_of_ble_eq_true rfl) tw_871 rfl (kd kX8_eats_0 16 rfl) ?_
    refine lv_iconst (v := (1 : Int32)) C.1 C.2.1 (kd kX8_eats_0 17 rfl) (by decide) ?_
    refine lv_iadd C.1 C.2.1 (kd kX8_eats_0 18 rfl) ?_
    obtain ⟨σ1, eσ1, hf⟩ := fL_some hf
    refine fl_put (j := 9) C hP hS rfl rfl (Nat.le_of_ble_eq_true rfl) rfl inX8 tyX8 tyX8_ok nmX8 (Nat.le_of_ble_eq_true rfl) tw_871 rfl rfl rfl (Nat.le_of_ble_eq_true rfl) (kd kX8_eats_0 19 rfl) (fun H locs hP hS => ?_)
    have hP : fH Γ σ1 H := by rw [eσ1]; exact hP
    refine lv_iconst (v := (1 : Int32)) C.1 C.2.1 (kd kX8_eats_0 20 rfl) (by decide) ?_
    exact fl_zret C hP hS rfl hf (kd kX8_eats_0 21 rfl)
  have hf := fif_neg q hf
  refine lv_iconst (v := (0 : Int32)) C.1 C.2.1 (kd kX8_eats_0 12 rfl) (by decide) ?_
  exact fl_zret C hP hS rfl hf (kd kX8_eats_0 13 rfl)
def f_X8_readsNumber_b93 (v2 : Int32) (σ : fS) : Option (Int32 × fS) := (if (σ 164 9) ≤ v2 then some ((0 : Int32), σ) else some ((1 : Int32), σ))
set_option maxRecDepth 100000 in
set_option maxHeartbeats 4000000 in
theorem w_X8_readsNumber_b93 {r : Int32} {σ' : fS}  (C : fC Γ p s m args meth c cX8_readsNumber (some .boolean) RX8 3) : ∀ (v2 : Int32) (σ : fS) (H : Heap) (locs : List Loc) (ls : Array Slot), f_X8_readsNumber_b93 v2 σ = some (r, σ') → fH Γ σ H → va_S (fAd Γ) s.heap H locs → lv_has ls 3 [(0, .ref (Γ.1 164)), (2, .int v2)] → W p l e ({ frames := 1, cells := 0, slots := 0, locals := 22 } : Room) s m args below meth c H locs 0 0 (MQ below (fQi Γ r σ') args s 0 0 (fAd Γ)) (F0 m 93 ls []) := by
  intro v2 σ H locs ls hf hP hS hl
  unfold f_X8_readsNumber_b93 at hf
  refine lv_aload_n C.1 C.2.1 (kd kX8_readsNumber_0 53 rfl) rfl (lv_at hl 0 rfl) ?_
  refine fl_get (j := 9) (v := .int (σ 164 9)) C hP rfl (Nat.le_of_ble_eq_true rfl) rfl inX8 (Nat.le_of_ble_eq_true rfl) tw_871 rfl (kd kX8_readsNumber_0 54 rfl) ?_
  refine lv_iload_n C.1 C.2.1 (kd kX8_readsNumber_0 55 rfl) rfl (lv_at hl 1 rfl) ?_
  refine lv_icmp_le (tgt := 105) C.1 C.2.1 (kd kX8_readsNumber_0 56 rfl) (by decide) (fun q => ?_) (fun q => ?_)
  · have hf := fif_pos q hf
    refine lv_iconst (v := (0 : Int32)) C.1 C.2.1 (kd kX8_readsNumber_0 59 rfl) (by decide) ?_
    exact fl_zret C hP hS rfl hf (kd kX8_readsNumber_1 0 rfl)
  have hf := fif_neg q hf
  refine lv_iconst (v := (1 : Int32)) C.1 C.2.1 (kd kX8_readsNumber_0 57 rfl) (by decide) ?_
  refine lv_goto (tgt := 106) C.1 C.2.1 (kd kX8_readsNumber_0 58 rfl) (by decide) ?_
  exact fl_zret C hP hS rfl hf (kd kX8_readsNumber_1 0 rfl)
def f_X8_readsNumber_b12 : Nat → Int32 → Int32 → fS → Option (Int32 × fS)
  | 0, _, _, _ => none
  | n_ + 1, v1, v2, σ => (if (σ 164 7) ≤ (σ 164 9) then f_X8_readsNumber_b93 (v2) σ else (if (4 : Int32) ≤ ((σ 164 9) - v2) then f_X8_readsNumber_b93 (v2) σ else fb (σ 164 9) 60 (fcall (f_X8_in (σ 169 (σ 164 9).toNatClampNeg) (48 : Int32) (57 : Int32) σ) (fun r1_ σ1 => (if r1_ = 0 then f_X8_readsNumber_b93 (v2) σ1 else fb v1 4 (fb (σ1 164 9) 60 (fb v1 4 (fL (fu σ1 170 v1.toNatClampNeg ((((10 : Int32) * (σ1 170 v1.toNatClampNeg)) + (σ1 169 (σ1 164 9).toNatClampNeg)) - (48 : Int32))) (fun σ2 => fL (fu σ2 164 9 ((σ2 164 9) + (1 : Int32))) (fun σ3 => (fun v1 v2 σ => f_X8_readsNumber_b12 n_ v1 v2 σ) (v1) (v2) σ3))))))))))
set_option maxRecDepth 100000 in
set_option maxHeartbeats 4000000 in
theorem w_X8_readsNumber_b12 {r : Int32} {σ' : fS}  (C : fC Γ p s m args meth c cX8_readsNumber (some .boolean) RX8 3) : ∀ (n_ : Nat) (v1 : Int32) (v2 : Int32) (σ : fS) (H : Heap) (locs : List Loc) (ls : Array Slot), f_X8_readsNumber_b12 n_ v1 v2 σ = some (r, σ') → fH Γ σ H → va_S (fAd Γ) s.heap H locs → lv_has ls 3 [(0, .ref (Γ.1 164)), (1, .int v1), (2, .int v2)] → W p l e ({ frames := 1, cells := 0, slots := 0, locals := 22 } : Room) s m args below meth c H locs 0 0 (MQ below (fQi Γ r σ') args s 0 0 (fAd Γ)) (F0 m 12 ls []) := by
  intro n_
  induction n_ with
  | zero =>
    intro v1 v2 σ H locs ls hf
    cases hf
  | succ n_ ih =>
    intro v1 v2 σ H locs ls hf hP hS hl
    have hf : (if (σ 164 7) ≤ (σ 164 9) then f_X8_readsNumber_b93 (v2) σ else (if (4 : Int32) ≤ ((σ 164 9) - v2) then f_X8_readsNumber_b93 (v2) σ else fb (σ 164 9) 60 (fcall (f_X8_in (σ 169 (σ 164 9).toNatClampNeg) (48 : Int32) (57 : Int32) σ) (fun r1_ σ1 => (if r1_ = 0 then f_X8_readsNumber_b93 (v2) σ1 else fb v1 4 (fb (σ1 164 9) 60 (fb v1 4 (fL (fu σ1 170 v1.toNatClampNeg ((((10 : Int32) * (σ1 170 v1.toNatClampNeg)) + (σ1 169 (σ1 164 9).toNatClampNeg)) - (48 : Int32))) (fun σ2 => fL (fu σ2 164 9 ((σ2 164 9) + (1 : Int32))) (fun σ3 => (fun v1 v2 σ => f_X8_readsNumber_b12 n_ v1 v2 σ) (v1) (v2) σ3)))))))))) = some (r, σ') := hf
    have hK12 := ih
    refine lv_aload_n C.1 C.2.1 (kd kX8_readsNumber_0 8 rfl) rfl (lv_at hl 0 rfl) ?_
    refine fl_get (j := 9) (v := .int (σ 164 9)) C hP rfl (Nat.le_of_ble_eq_true rfl) rfl inX8 (Nat.le_of_ble_eq_true rfl) tw_871 rfl (kd kX8_readsNumber_0 9 rfl) ?_
    refine lv_aload_n C.1 C.2.1 (kd kX8_readsNumber_0 10 rfl) rfl (lv_at hl 0 rfl) ?_
    refine fl_get (j := 7) (v := .int (σ 164 7)) C hP rfl (Nat.le_of_ble_eq_true rfl) rfl inX8 (Nat.le_of_ble_eq_true rfl) tw_869 rfl (kd kX8_readsNumber_0 11 rfl) ?_
    refine lv_icmp_ge (tgt := 93) C.1 C.2.1 (kd kX8_readsNumber_0 12 rfl) (by decide) (fun q => ?_) (fun q => ?_)
    · have hf := fif_pos q hf
      exact w_X8_readsNumber_b93 C (v2) σ H locs ls hf hP hS (lv_sub hl [0, 2] rfl)
    have hf := fif_neg q hf
    refine lv_aload_n C.1 C.2.1 (kd kX8_readsNumber_0 13 rfl) rfl (lv_at hl 0 rfl) ?_
    refine fl_get (j := 9) (v := .int (σ 164 9)) C hP rfl (Nat.le_of_ble_eq_true rfl) rfl inX8 (Nat.le_of_ble_eq_true rfl) tw_871 rfl (kd kX8_readsNumber_0 14 rfl) ?_
    refine lv_iload_n C.1 C.2.1 (kd kX8_readsNumber_0 15 rfl) rfl (lv_at hl 2 rfl) ?_
    refine lv_isub C.1 C.2.1 (kd kX8_readsNumber_0 16 rfl) ?_
    refine lv_iconst (v := (4 : Int32)) C.1 C.2.1 (kd kX8_readsNumber_0 17 rfl) (by decide) ?_
    refine lv_icmp_ge (tgt := 93) C.1 C.2.1 (kd kX8_readsNumber_0 18 rfl) (by decide) (fun q => ?_) (fun q => ?_)
    · have hf := fif_pos q hf
      exact w_X8_readsNumber_b93 C (v2) σ H locs ls hf hP hS (lv_sub hl [0, 2] rfl)
    have hf := fif_neg q hf
    refine lv_aload_n C.1 C.2.1 (kd kX8_readsNumber_0 19 rfl) rfl (lv_at hl 0 rfl) ?_
    refine fl_get (j := 6) (v := .ref (Γ.1 169)) C hP rfl (Nat.le_of_ble_eq_true rfl) rfl inX8 (Nat.le_of_ble_eq_true rfl) tw_868 rfl (kd kX8_readsNumber_0 20 rfl) ?_
    refine lv_aload_n C.1 C.2.1 (kd kX8_readsNumber_0 21 rfl) rfl (lv_at hl 0 rfl) ?_
    refine fl_get (j := 9) (v := .int (σ 164 9)) C hP rfl (Nat.le_of_ble_eq_true rfl) rfl inX8 (Nat.le_of_ble_eq_true rfl) tw_871 rfl (kd kX8_readsNumber_0 22 rfl) ?_
    obtain ⟨hq, hf⟩ := fb_some hf
    refine fl_cald C hP rfl hq (kd kX8_readsNumber_0 23 rfl) ?_
    refine lv_bipush (v := (48 : Int32)) C.1 C.2.1 (kd kX8_readsNumber_0 24 rfl) (by decide) ?_
    refine lv_bipush (v := (57 : Int32)) C.1 C.2.1 (kd kX8_readsNumber_0 25 rfl) (by decide) ?_
    obtain ⟨r1_, σ1, hσ1, hf⟩ := fcall_some hf
    refine fl_i hS (fl_runS (As := [.int (σ 169 (σ 164 9).toNatClampNeg), .int (48 : Int32), .int (57 : Int32)]) (rest := []) C hP (m_X8_in C.2.2.2.2.2.2.2.2 l  hσ1) (fgS tw_968 tw_969 tw_75 tw_970) hs_X8_in ⟨rfl, rfl, Nat.le_of_ble_eq_true rfl, Nat.le_of_ble_eq_true rfl⟩ rfl hl.1 rfl (Nat.le_of_ble_eq_true rfl) (kd kX8_readsNumber_0 26 rfl)) (fun H locs hP hS => ?_)
    refine lv_if_eq (tgt := 93) C.1 C.2.1 (kd kX8_readsNumber_0 27 rfl) (by decide) (fun q => ?_) (fun q => ?_)
    · have hf := fif_pos q hf
      exact w_X8_readsNumber_b93 C (v2) σ1 H locs ls hf hP hS (lv_sub hl [0, 2] rfl)
    have hf := fif_neg q hf
    refine lv_aload_n C.1 C.2.1 (kd kX8_readsNumber_0 28 rfl) rfl (lv_at hl 0 rfl) ?_
    refine fl_get (j := 11) (v := .ref (Γ.1 170)) C hP rfl (Nat.le_of_ble_eq_true rfl) rfl inX8 (Nat.le_of_ble_eq_true rfl) tw_873 rfl (kd kX8_readsNumber_0 29 rfl) ?_
    refine lv_iload_n C.1 C.2.1 (kd kX8_readsNumber_0 30 rfl) rfl (lv_at hl 1 rfl) ?_
    refine lv_bipush (v := (10 : Int32)) C.1 C.2.1 (kd kX8_readsNumber_0 31 rfl) (by decide) ?_
    refine lv_aload_n C.1 C.2.1 (kd kX8_readsNumber_0 32 rfl) rfl (lv_at hl 0 rfl) ?_
    refine fl_get (j := 11) (v := .ref (Γ.1 170)) C hP rfl (Nat.le_of_ble_eq_true rfl) rfl inX8 (Nat.le_of_ble_eq_true rfl) tw_873 rfl (kd kX8_readsNumber_0 33 rfl) ?_
    refine lv_iload_n C.1 C.2.1 (kd kX8_readsNumber_0 34 rfl) rfl (lv_at hl 1 rfl) ?_
    obtain ⟨hq, hf⟩ := fb_some hf
    refine fl_iald C hP rfl hq (kd kX8_readsNumber_0 35 rfl) ?_
    refine lv_imul C.1 C.2.1 (kd kX8_readsNumber_0 36 rfl) ?_
    refine lv_aload_n C.1 C.2.1 (kd kX8_readsNumber_0 37 rfl) rfl (lv_at hl 0 rfl) ?_
    refine fl_get (j := 6) (v := .ref (Γ.1 169)) C hP rfl (Nat.le_of_ble_eq_true rfl) rfl inX8 (Nat.le_of_ble_eq_true rfl) tw_868 rfl (kd kX8_readsNumber_0 38 rfl) ?_
    refine lv_aload_n C.1 C.2.1 (kd kX8_readsNumber_0 39 rfl) rfl (lv_at hl 0 rfl) ?_
    refine fl_get (j := 9) (v := .int (σ1 164 9)) C hP rfl (Nat.le_of_ble_eq_true rfl) rfl inX8 (Nat.le_of_ble_eq_true rfl) tw_871 rfl (kd kX8_readsNumber_0 40 rfl) ?_
    obtain ⟨hq, hf⟩ := fb_some hf
    refine fl_cald C hP rfl hq (kd kX8_readsNumber_0 41 rfl) ?_
    refine lv_iadd C.1 C.2.1 (kd kX8_readsNumber_0 42 rfl) ?_
    refine lv_bipush (v := (48 : Int32)) C.1 C.2.1 (kd kX8_readsNumber_0 43 rfl) (by decide) ?_
    refine lv_isub C.1 C.2.1 (kd kX8_readsNumber_0 44 rfl) ?_
    obtain ⟨hq, hf⟩ := fb_some hf
    obtain ⟨σ2, eσ2, hf⟩ := fL_some hf
    refine fl_iast C hP hS rfl hq (kd kX8_readsNumber_0 45 rfl) (fun H locs hP hS => ?_)
    have hP : fH Γ σ2 H := by rw [eσ2]; exact hP
    refine lv_aload_n C.1 C.2.1 (kd kX8_readsNumber_0 46 rfl) rfl (lv_at hl 0 rfl) ?_
    refine lv_dup C.1 C.2.1 (kd kX8_readsNumber_0 47 rfl) rfl ?_
    refine fl_get (j := 9) (v := .int (σ2 164 9)) C hP rfl (Nat.le_of_ble_eq_true rfl) rfl inX8 (Nat.le_of_ble_eq_true rfl) tw_871 rfl (kd kX8_readsNumber_0 48 rfl) ?_
    refine lv_iconst (v := (1 : Int32)) C.1 C.2.1 (kd kX8_readsNumber_0 49 rfl) (by decide) ?_
    refine lv_iadd C.1 C.2.1 (kd kX8_readsNumber_0 50 rfl) ?_
    obtain ⟨σ3, eσ3, hf⟩ := fL_some hf
    refine fl_put (j := 9) C hP hS rfl rfl (Nat.le_of_ble_eq_true rfl) rfl inX8 tyX8 tyX8_ok nmX8 (Nat.le_of_ble_eq_true rfl) tw_871 rfl rfl rfl (Nat.le_of_ble_eq_true rfl) (kd kX8_readsNumber_0 51 rfl) (fun H locs hP hS => ?_)
    have hP : fH Γ σ3 H := by rw [eσ3]; exact hP
    refine lv_goto (tgt := 12) C.1 C.2.1 (kd kX8_readsNumber_0 52 rfl) (by decide) ?_
    exact hK12 (v1) (v2) σ3 H locs ls hf hP hS (lv_sub hl [0, 1, 2] rfl)
def f_X8_readsNumber (x1 : Int32) (σ : fS) : Option (Int32 × fS) := fb x1 4 (fL (fu σ 170 x1.toNatClampNeg (0 : Int32)) (fun σ1 => f_X8_readsNumber_b12 fN (x1) ((σ 164 9)) σ1))
set_option maxRecDepth 100000 in
set_option maxHeartbeats 4000000 in
theorem m_X8_readsNumber {Γ : fGm} (hI : fI Γ) (l : Launch) {x1 : Int32} {σ : fS} {r : Int32} {σ' : fS} (hf : f_X8_readsNumber x1 σ = some (r, σ')) : Met l yX8_readsNumber (.code yX8_readsNumber cX8_readsNumber 3 (some .boolean) :: lw_g) ({ frames := 1, cells := 0, slots := 0, locals := 22 } : Room) (fPre Γ [.ref (Γ.1 164), .int x1] σ) (fQi Γ r σ') 0 0 (fAd Γ) := by
  refine fl_enter (own := RX8) hI (by decide +kernel) rfl (Nat.le_of_ble_eq_true rfl) ?_
  intro p e s m args below meth c ls C hl hP hS
  have hl : lv_has ls 3 [(0, .ref (Γ.1 164)), (1, .int x1)] := hl
  obtain ⟨H, hH⟩ : ∃ H, H = s.heap := ⟨_, rfl⟩
  obtain ⟨locs, hL⟩ : ∃ L : List Loc, L = [] := ⟨_, rfl⟩
  have hP : fH Γ σ H := by rw [hH]; exact hP
  have hS : va_S (fAd Γ) s.heap H locs := by rw [hH, hL]; exact hS
  suffices hw : W p l e ({ frames := 1, cells := 0, slots := 0, locals := 22 } : Room) s m args below meth c H locs 0 0 (MQ below (fQi Γ r σ') args s 0 0 (fAd Γ)) (F0 m 0 ls []) by rw [hH, hL] at hw; exact hw
  unfold f_X8_readsNumber at hf
  refine lv_aload_n C.1 C.2.1 (kd kX8_readsNumber_0 0 rfl) rfl (lv_at hl 0 rfl) ?_
  refine fl_get (j := 9) (v := .int (σ 164 9)) C hP rfl (Nat.le_of_ble_eq_true rfl) rfl inX8 (Nat.le_of_ble_eq_true rfl) tw_871 rfl (kd kX8_readsNumber_0 1 rfl) ?_
  refine lv_istore_n (lv' := [(2, .int (σ 164 9)), (0, .ref (Γ.1 164)), (1, .int x1)]) C.1 C.2.1 (kd kX8_readsNumber_0 2 rfl) rfl hl (Nat.le_of_ble_eq_true rfl) rfl (fun ls hl => ?_)
  refine lv_aload_n C.1 C.2.1 (kd kX8_readsNumber_0 3 rfl) rfl (lv_at hl 1 rfl) ?_
  refine fl_get (j := 11) (v := .ref (Γ.1 170)) C hP rfl (Nat.le_of_ble_eq_true rfl) rfl inX8 (Nat.le_of_ble_eq_true rfl) tw_873 rfl (kd kX8_readsNumber_0 4 rfl) ?_
  refine lv_iload_n C.1 C.2.1 (kd kX8_readsNumber_0 5 rfl) rfl (lv_at hl 2 rfl) ?_
  refine lv_iconst (v := (0 : Int32)) C.1 C.2.1 (kd kX8_readsNumber_0 6 rfl) (by decide) ?_
  obtain ⟨hq, hf⟩ := fb_some hf
  obtain ⟨σ1, eσ1, hf⟩ := fL_some hf
  refine fl_iast C hP hS rfl hq (kd kX8_readsNumber_0 7 rfl) (fun H locs hP hS => ?_)
  have hP : fH Γ σ1 H := by rw [eσ1]; exact hP
  exact w_X8_readsNumber_b12 C fN (x1) ((σ 164 9)) σ1 H locs ls hf hP hS (lv_sub hl [1, 2, 0] rfl)
def f_X8_readsEntry_b136 (s0 : Int32) (σ : fS) : Option (Int32 × fS) := fcall (f_X8_readsNumber (1 : Int32) σ) (fun r1_ σ1 => (if s0 = 0 then fb (1 : Int32) 4 (fb (1 : Int32) 4 (fL (fu σ1 170 (1 : Int32).toNatClampNeg (σ1 170 (1 : Int32).toNatClampNeg)) (fun σ2 => fg (r1_ = 0 ∨ r1_ = 1) (some (r1_, σ2))))) else fb (1 : Int32) 4 (fb (1 : Int32) 4 (fL (fu σ1 170 (1 : Int32).toNatClampNeg (-(σ1 170 (1 : Int32).toNatClampNeg))) (fun σ3 => fg (r1_ = 0 ∨ r1_ = 1) (some (r1_, σ3)))))))
set_option maxRecDepth 100000 in
set_option maxHeartbeats 4000000 in
theorem w_X8_readsEntry_b136 {r : Int32} {σ' : fS}  (C : fC Γ p s m args meth c cX8_readsEntry (some .boolean) RX8 3) : ∀ (s0 : Int32) (σ : fS) (H : Heap) (locs : List Loc) (ls : Array Slot), f_X8_readsEntry_b136 s0 σ = some (r, σ') → fH Γ σ H → va_S (fAd Γ) s.heap H locs → lv_has ls 3 [(0, .ref (Γ.1 164))] → W p l e ({ frames := 2, cells := 0, slots := 0, locals := 44 } : Room) s m args below meth c H locs 0 0 (MQ below (fQi Γ r σ') args s 0 0 (fAd Γ)) (F0 m 136 ls [.int s0]) := by
  intro s0 σ H locs ls hf hP hS hl
  unfold f_X8_readsEntry_b136 at hf
  refine lv_istore_n (lv' := [(1, .int s0), (0, .ref (Γ.1 164))]) C.1 C.2.1 (kd kX8_readsEntry_1 7 rfl) rfl hl (Nat.le_of_ble_eq_true rfl) rfl (fun ls hl => ?_)
  refine lv_aload_n C.1 C.2.1 (kd kX8_readsEntry_1 8 rfl) rfl (lv_at hl 1 rfl) ?_
  refine lv_iconst (v := (1 : Int32)) C.1 C.2.1 (kd kX8_readsEntry_1 9 rfl) (by decide) ?_
  obtain ⟨r1_, σ1, hσ1, hf⟩ := fcall_some hf
  refine fl_i hS (fl_runV (As := [.int (1 : Int32)]) (rest := []) C hP rfl (Nat.le_of_ble_eq_true rfl) rfl (m_X8_readsNumber C.2.2.2.2.2.2.2.2 l  hσ1) (fgV tw_1070 tw_1072 tw_35 tw_75 tw_1073) hd_X8_readsNumber ⟨rfl, rfl, Nat.le_of_ble_eq_true rfl, Nat.le_of_ble_eq_true rfl⟩ rfl hl.1 rfl (Nat.le_of_ble_eq_true rfl) (kd kX8_readsEntry_1 10 rfl)) (fun H locs hP hS => ?_)
  refine lv_istore_n (lv' := [(2, .int r1_), (1, .int s0), (0, .ref (Γ.1 164))]) C.1 C.2.1 (kd kX8_readsEntry_1 11 rfl) rfl hl (Nat.le_of_ble_eq_true rfl) rfl (fun ls hl => ?_)
  refine lv_aload_n C.1 C.2.1 (kd kX8_readsEntry_1 12 rfl) rfl (lv_at hl 2 rfl) ?_
  refine fl_get (j := 11) (v := .ref (Γ.1 170)) C hP rfl (Nat.le_of_ble_eq_true rfl) rfl inX8 (Nat.le_of_ble_eq_true rfl) tw_873 rfl (kd kX8_readsEntry_1 13 rfl) ?_
  refine lv_iconst (v := (1 : Int32)) C.1 C.2.1 (kd kX8_readsEntry_1 14 rfl) (by decide) ?_
  refine lv_iload_n C.1 C.2.1 (kd kX8_readsEntry_1 15 rfl) rfl (lv_at hl 1 rfl) ?_
  refine lv_if_eq (tgt := 162) C.1 C.2.1 (kd kX8_readsEntry_1 16 rfl) (by decide) (fun q => ?_) (fun q => ?_)
  · have hf := fif_pos q hf
    refine lv_aload_n C.1 C.2.1 (kd kX8_readsEntry_1 23 rfl) rfl (lv_at hl 2 rfl) ?_
    refine fl_get (j := 11) (v := .ref (Γ.1 170)) C hP rfl (Nat.le_of_ble_eq_true rfl) rfl inX8 (Nat.le_of_ble_eq_true rfl) tw_873 rfl (kd kX8_readsEntry_1 24 rfl) ?_
    refine lv_iconst (v := (1 : Int32)) C.1 C.2.1 (kd kX8_readsEntry_1 25 rfl) (by decide) ?_
    obtain ⟨hq, hf⟩ := fb_some hf
    refine fl_iald C hP rfl hq (kd kX8_readsEntry_1 26 rfl) ?_
    obtain ⟨hq, hf⟩ := fb_some hf
    obtain ⟨σ2, eσ2, hf⟩ := fL_some hf
    refine fl_iast C hP hS rfl hq (kd kX8_readsEntry_1 27 rfl) (fun H locs hP hS => ?_)
    have hP : fH Γ σ2 H := by rw [eσ2]; exact hP
    refine lv_iload_n C.1 C.2.1 (kd kX8_readsEntry_1 28 rfl) rfl (lv_at hl 0 rfl) ?_
    obtain ⟨hz, hf⟩ := fg_some hf
    exact fl_zret C hP hS (fz hz) hf (kd kX8_readsEntry_1 29 rfl)
  have hf := fif_neg q hf
  refine lv_aload_n C.1 C.2.1 (kd kX8_readsEntry_1 17 rfl) rfl (lv_at hl 2 rfl) ?_
  refine fl_get (j := 11) (v := .ref (Γ.1 170)) C hP rfl (Nat.le_of_ble_eq_true rfl) rfl inX8 (Nat.le_of_ble_eq_true rfl) tw_873 rfl (kd kX8_readsEntry_1 18 rfl) ?_
  refine lv_iconst (v := (1 : Int32)) C.1 C.2.1 (kd kX8_readsEntry_1 19 rfl) (by decide) ?_
  obtain ⟨hq, hf⟩ := fb_some hf
  refine fl_iald C hP rfl hq (kd kX8_readsEntry_1 20 rfl) ?_
  refine lv_ineg C.1 C.2.1 (kd kX8_readsEntry_1 21 rfl) ?_
  refine lv_goto (tgt := 168) C.1 C.2.1 (kd kX8_readsEntry_1 22 rfl) (by decide) ?_
  obtain ⟨hq, hf⟩ := fb_some hf
  obtain ⟨σ3, eσ3, hf⟩ := fL_some hf
  refine fl_iast C hP hS rfl hq (kd kX8_readsEntry_1 27 rfl) (fun H locs hP hS => ?_)
  have hP : fH Γ σ3 H := by rw [eσ3]; exact hP
  refine lv_iload_n C.1 C.2.1 (kd kX8_readsEntry_1 28 rfl) rfl (lv_at hl 0 rfl) ?_
  obtain ⟨hz, hf⟩ := fg_some hf
  exact fl_zret C hP hS (fz hz) hf (kd kX8_readsEntry_1 29 rfl)
def f_X8_readsEntry_b135 (σ : fS) : Option (Int32 × fS) := f_X8_readsEntry_b136 ((0 : Int32)) σ
set_option maxRecDepth 100000 in
set_option maxHeartbeats 4000000 in
theorem w_X8_readsEntry_b135 {r : Int32} {σ' : fS}  (C : fC Γ p s m args meth c cX8_readsEntry (some .boolean) RX8 3) : ∀ (σ : fS) (H : Heap) (locs : List Loc) (ls : Array Slot), f_X8_readsEntry_b135 σ = some (r, σ') → fH Γ σ H → va_S (fAd Γ) s.heap H locs → lv_has ls 3 [(0, .ref (Γ.1 164))] → W p l e ({ frames := 2, cells := 0, slots := 0, locals := 44 } : Room) s m args below meth c H locs 0 0 (MQ below (fQi Γ r σ') args s 0 0 (fAd Γ)) (F0 m 135 ls []) := by
  intro σ H locs ls hf hP hS hl
  unfold f_X8_readsEntry_b135 at hf
  refine lv_iconst (v := (0 : Int32)) C.1 C.2.1 (kd kX8_readsEntry_1 6 rfl) (by decide) ?_
  exact w_X8_readsEntry_b136 C ((0 : Int32)) σ H locs ls hf hP hS (lv_sub hl [0] rfl)
def f_X8_readsEntry_b94 (σ : fS) : Option (Int32 × fS) := fcall (f_X8_readsNumber (0 : Int32) σ) (fun r1_ σ1 => (if r1_ = 0 then some ((0 : Int32), σ1) else fcall (f_X8_eats (61 : Int32) σ1) (fun r2_ σ2 => (if r2_ = 0 then some ((0 : Int32), σ2) else (if (σ2 164 10) = (116 : Int32) then fcall (f_X8_eats (45 : Int32) σ2) (fun r3_ σ3 => (if r3_ = 0 then f_X8_readsEntry_b135 σ3 else f_X8_readsEntry_b136 ((1 : Int32)) σ3)) else f_X8_readsEntry_b135 σ2)))))
set_option maxRecDepth 100000 in
set_option maxHeartbeats 4000000 in
theorem w_X8_readsEntry_b94 {r : Int32} {σ' : fS}  (C : fC Γ p s m args meth c cX8_readsEntry (some .boolean) RX8 3) : ∀ (σ : fS) (H : Heap) (locs : List Loc) (ls : Array Slot), f_X8_readsEntry_b94 σ = some (r, σ') → fH Γ σ H → va_S (fAd Γ) s.heap H locs → lv_has ls 3 [(0, .ref (Γ.1 164))] → W p l e ({ frames := 2, cells := 0, slots := 0, locals := 44 } : Room) s m args below meth c H locs 0 0 (MQ below (fQi Γ r σ') args s 0 0 (fAd Γ)) (F0 m 94 ls []) := by
  intro σ H locs ls hf hP hS hl
  unfold f_X8_readsEntry_b94 at hf
  refine lv_aload_n C.1 C.2.1 (kd kX8_readsEntry_0 46 rfl) rfl (lv_at hl 0 rfl) ?_
  refine lv_iconst (v := (0 : Int32)) C.1 C.2.1 (kd kX8_readsEntry_0 47 rfl) (by decide) ?_
  obtain ⟨r1_, σ1, hσ1, hf⟩ := fcall_some hf
  refine fl_i hS (fl_runV (As := [.int (0 : Int32)]) (rest := []) C hP rfl (Nat.le_of_ble_eq_true rfl) rfl (m_X8_readsNumber C.2.2.2.2.2.2.2.2 l  hσ1) (fgV tw_1070 tw_1072 tw_35 tw_75 tw_1073) hd_X8_readsNumber ⟨rfl, rfl, Nat.le_of_ble_eq_true rfl, Nat.le_of_ble_eq_true rfl⟩ rfl hl.1 rfl (Nat.le_of_ble_eq_true rfl) (kd kX8_readsEntry_0 48 rfl)) (fun H locs hP hS => ?_)
  refine lv_if_eq (tgt := 111) C.1 C.2.1 (kd kX8_readsEntry_0 49 rfl) (by decide) (fun q => ?_) (fun q => ?_)
  · have hf := fif_pos q hf
    refine lv_iconst (v := (0 : Int32)) C.1 C.2.1 (kd kX8_readsEntry_0 54 rfl) (by decide) ?_
    exact fl_zret C hP hS rfl hf (kd kX8_readsEntry_0 55 rfl)
  have hf := fif_neg q hf
  refine lv_aload_n C.1 C.2.1 (kd kX8_readsEntry_0 50 rfl) rfl (lv_at hl 0 rfl) ?_
  refine lv_bipush (v := (61 : Int32)) C.1 C.2.1 (kd kX8_readsEntry_0 51 rfl) (by decide) ?_
  obtain ⟨r2_, σ2, hσ2, hf⟩ := fcall_some hf
  refine fl_i hS (fl_runV (As := [.int (61 : Int32)]) (rest := []) C hP rfl (Nat.le_of_ble_eq_true rfl) rfl (m_X8_eats C.2.2.2.2.2.2.2.2 l  hσ2) (fgV tw_1074 tw_1076 tw_36 tw_75 tw_1077) hd_X8_eats ⟨rfl, rfl, Nat.le_of_ble_eq_true rfl, Nat.le_of_ble_eq_true rfl⟩ rfl hl.1 rfl (Nat.le_of_ble_eq_true rfl) (kd kX8_readsEntry_0 52 rfl)) (fun H locs hP hS => ?_)
  refine lv_if_ne (tgt := 113) C.1 C.2.1 (kd kX8_readsEntry_0 53 rfl) (by decide) (fun q => ?_) (fun q => ?_)
  · have hf := fif_neg q hf
    refine lv_aload_n C.1 C.2.1 (kd kX8_readsEntry_0 56 rfl) rfl (lv_at hl 0 rfl) ?_
    refine fl_get (j := 10) (v := .int (σ2 164 10)) C hP rfl (Nat.le_of_ble_eq_true rfl) rfl inX8 (Nat.le_of_ble_eq_true rfl) tw_872 rfl (kd kX8_readsEntry_0 57 rfl) ?_
    refine lv_bipush (v := (116 : Int32)) C.1 C.2.1 (kd kX8_readsEntry_0 58 rfl) (by decide) ?_
    refine lv_icmp_ne (tgt := 135) C.1 C.2.1 (kd kX8_readsEntry_0 59 rfl) (by decide) (fun q => ?_) (fun q => ?_)
    · have hf := fif_neg q hf
      exact w_X8_readsEntry_b135 C σ2 H locs ls hf hP hS (lv_sub hl [0] rfl)
    have hf := fif_pos q hf
    refine lv_aload_n C.1 C.2.1 (kd kX8_readsEntry_1 0 rfl) rfl (lv_at hl 0 rfl) ?_
    refine lv_bipush (v := (45 : Int32)) C.1 C.2.1 (kd kX8_readsEntry_1 1 rfl) (by decide) ?_
    obtain ⟨r3_, σ3, hσ3, hf⟩ := fcall_some hf
    refine fl_i hS (fl_runV (As := [.int (45 : Int32)]) (rest := []) C hP rfl (Nat.le_of_ble_eq_true rfl) rfl (m_X8_eats C.2.2.2.2.2.2.2.2 l  hσ3) (fgV tw_1074 tw_1076 tw_36 tw_75 tw_1077) hd_X8_eats ⟨rfl, rfl, Nat.le_of_ble_eq_true rfl, Nat.le_of_ble_eq_true rfl⟩ rfl hl.1 rfl (Nat.le_of_ble_eq_true rfl) (kd kX8_readsEntry_1 2 rfl)) (fun H locs hP hS => ?_)
    refine lv_if_eq (tgt := 135) C.1 C.2.1 (kd kX8_readsEntry_1 3 rfl) (by decide) (fun q => ?_) (fun q => ?_)
    · have hf := fif_pos q hf
      exact w_X8_readsEntry_b135 C σ3 H locs ls hf hP hS (lv_sub hl [0] rfl)
    have hf := fif_neg q hf
    refine lv_iconst (v := (1 : Int32)) C.1 C.2.1 (kd kX8_readsEntry_1 4 rfl) (by decide) ?_
    refine lv_goto (tgt := 136) C.1 C.2.1 (kd kX8_readsEntry_1 5 rfl) (by decide) ?_
    exact w_X8_readsEntry_b136 C ((1 : Int32)) σ3 H locs ls hf hP hS (lv_sub hl [0] rfl)
  have hf := fif_pos q hf
  refine lv_iconst (v := (0 : Int32)) C.1 C.2.1 (kd kX8_readsEntry_0 54 rfl) (by decide) ?_
  exact fl_zret C hP hS rfl hf (kd kX8_readsEntry_0 55 rfl)
def f_X8_readsEntry_b204 (K173 : Int32 → fS → Option (Int32 × fS)) (v1 : Int32) (σ : fS) : Option (Int32 × fS) := fcall (f_X8_readsNumber v1 σ) (fun r1_ σ1 => (if r1_ = 0 then some ((0 : Int32), σ1) else K173 ((v1 + (1 : Int32))) σ1))
set_option maxRecDepth 100000 in
set_option maxHeartbeats 4000000 in
theorem w_X8_readsEntry_b204 {r : Int32} {σ' : fS} {K173 : Int32 → fS → Option (Int32 × fS)}  (C : fC Γ p s m args meth c cX8_readsEntry (some .boolean) RX8 3) (hK173 : ∀ (v1 : Int32) (σ : fS) (H : Heap) (locs : List Loc) (ls : Array Slot), K173 v1 σ = some (r, σ') → fH Γ σ H → va_S (fAd Γ) s.heap H locs → lv_has ls 3 [(0, .ref (Γ.1 164)), (1, .int v1)] → W p l e ({ frames := 2, cells := 0, slots := 0, locals := 44 } : Room) s m args below meth c H locs 0 0 (MQ below (fQi Γ r σ') args s 0 0 (fAd Γ)) (F0 m 173 ls [])) : ∀ (v1 : Int32) (σ : fS) (H : Heap) (locs : List Loc) (ls : Array Slot), f_X8_readsEntry_b204 K173 v1 σ = some (r, σ') → fH Γ σ H → va_S (fAd Γ) s.heap H locs → lv_has ls 3 [(0, .ref (Γ.1 164)), (1, .int v1)] → W p l e ({ frames := 2, cells := 0, slots := 0, locals := 44 } : Room) s m args below meth c H locs 0 0 (MQ below (fQi Γ r σ') args s 0 0 (fAd Γ)) (F0 m 204 ls []) := by
  intro v1 σ H locs ls hf hP hS hl
  unfold f_X8_readsEntry_b204 at hf
  refine lv_aload_n C.1 C.2.1 (kd kX8_readsEntry_1 47 rfl) rfl (lv_at hl 0 rfl) ?_
  refine lv_iload_n C.1 C.2.1 (kd kX8_readsEntry_1 48 rfl) rfl (lv_at hl 1 rfl) ?_
  obtain ⟨r1_, σ1, hσ1, hf⟩ := fcall_some hf
  refine fl_i hS (fl_runV (As := [.int v1]) (rest := []) C hP rfl (Nat.le_of_ble_eq_true rfl) rfl (m_X8_readsNumber C.2.2.2.2.2.2.2.2 l  hσ1) (fgV tw_1070 tw_1072 tw_35 tw_75 tw_1073) hd_X8_readsNumber ⟨rfl, rfl, Nat.le_of_ble_eq_true rfl, Nat.le_of_ble_eq_true rfl⟩ rfl hl.1 rfl (Nat.le_of_ble_eq_true rfl) (kd kX8_readsEntry_1 49 rfl)) (fun H locs hP hS => ?_)
  refine lv_if_ne (tgt := 214) C.1 C.2.1 (kd kX8_readsEntry_1 50 rfl) (by decide) (fun q => ?_) (fun q => ?_)
  · have hf := fif_neg q hf
    refine lv_iinc (v := (v1 + (1 : Int32))) (lv' := [(1, .int (v1 + (1 : Int32))), (0, .ref (Γ.1 164))]) C.1 C.2.1 (kd kX8_readsEntry_1 53 rfl) hl (k := 1) rfl rfl (Nat.le_of_ble_eq_true rfl) rfl (fun ls hl => ?_)
    refine lv_goto (tgt := 173) C.1 C.2.1 (kd kX8_readsEntry_1 54 rfl) (by decide) ?_
    exact hK173 ((v1 + (1 : Int32))) σ1 H locs ls hf hP hS (lv_sub hl [1, 0] rfl)
  have hf := fif_pos q hf
  refine lv_iconst (v := (0 : Int32)) C.1 C.2.1 (kd kX8_readsEntry_1 51 rfl) (by decide) ?_
  exact fl_zret C hP hS rfl hf (kd kX8_readsEntry_1 52 rfl)
def f_X8_readsEntry_b188 (K173 : Int32 → fS → Option (Int32 × fS)) (v1 : Int32) (s0 : Int32) (s1 : Int32) (σ : fS) : Option (Int32 × fS) := (if s0 ≤ s1 then some ((1 : Int32), σ) else (if v1 ≤ 0 then f_X8_readsEntry_b204 K173 (v1) σ else fcall (f_X8_eats (44 : Int32) σ) (fun r1_ σ1 => (if r1_ = 0 then some ((0 : Int32), σ1) else f_X8_readsEntry_b204 K173 (v1) σ1))))
set_option maxRecDepth 100000 in
set_option maxHeartbeats 4000000 in
theorem w_X8_readsEntry_b188 {r : Int32} {σ' : fS} {K173 : Int32 → fS → Option (Int32 × fS)}  (C : fC Γ p s m args meth c cX8_readsEntry (some .boolean) RX8 3) (hK173 : ∀ (v1 : Int32) (σ : fS) (H : Heap) (locs : List Loc) (ls : Array Slot), K173 v1 σ = some (r, σ') → fH Γ σ H → va_S (fAd Γ) s.heap H locs → lv_has ls 3 [(0, .ref (Γ.1 164)), (1, .int v1)] → W p l e ({ frames := 2, cells := 0, slots := 0, locals := 44 } : Room) s m args below meth c H locs 0 0 (MQ below (fQi Γ r σ') args s 0 0 (fAd Γ)) (F0 m 173 ls [])) : ∀ (v1 : Int32) (s0 : Int32) (s1 : Int32) (σ : fS) (H : Heap) (locs : List Loc) (ls : Array Slot), f_X8_readsEntry_b188 K173 v1 s0 s1 σ = some (r, σ') → fH Γ σ H → va_S (fAd Γ) s.heap H locs → lv_has ls 3 [(0, .ref (Γ.1 164)), (1, .int v1)] → W p l e ({ frames := 2, cells := 0, slots := 0, locals := 44 } : Room) s m args below meth c H locs 0 0 (MQ below (fQi Γ r σ') args s 0 0 (fAd Γ)) (F0 m 188 ls [.int s0, .int s1]) := by
  intro v1 s0 s1 σ H locs ls hf hP hS hl
  unfold f_X8_readsEntry_b188 at hf
  refine lv_icmp_ge (tgt := 220) C.1 C.2.1 (kd kX8_readsEntry_1 40 rfl) (by decide) (fun q => ?_) (fun q => ?_)
  · have hf := fif_pos q hf
    refine lv_iconst (v := (1 : Int32)) C.1 C.2.1 (kd kX8_readsEntry_1 55 rfl) (by decide) ?_
    exact fl_zret C hP hS rfl hf (kd kX8_readsEntry_1 56 rfl)
  have hf := fif_neg q hf
  refine lv_iload_n C.1 C.2.1 (kd kX8_readsEntry_1 41 rfl) rfl (lv_at hl 1 rfl) ?_
  refine lv_if_le (tgt := 204) C.1 C.2.1 (kd kX8_readsEntry_1 42 rfl) (by decide) (fun q => ?_) (fun q => ?_)
  · have hf := fif_pos q hf
    exact w_X8_readsEntry_b204 C hK173 (v1) σ H locs ls hf hP hS (lv_sub hl [0, 1] rfl)
  have hf := fif_neg q hf
  refine lv_aload_n C.1 C.2.1 (kd kX8_readsEntry_1 43 rfl) rfl (lv_at hl 0 rfl) ?_
  refine lv_bipush (v := (44 : Int32)) C.1 C.2.1 (kd kX8_readsEntry_1 44 rfl) (by decide) ?_
  obtain ⟨r1_, σ1, hσ1, hf⟩ := fcall_some hf
  refine fl_i hS (fl_runV (As := [.int (44 : Int32)]) (rest := []) C hP rfl (Nat.le_of_ble_eq_true rfl) rfl (m_X8_eats C.2.2.2.2.2.2.2.2 l  hσ1) (fgV tw_1074 tw_1076 tw_36 tw_75 tw_1077) hd_X8_eats ⟨rfl, rfl, Nat.le_of_ble_eq_true rfl, Nat.le_of_ble_eq_true rfl⟩ rfl hl.1 rfl (Nat.le_of_ble_eq_true rfl) (kd kX8_readsEntry_1 45 rfl)) (fun H locs hP hS => ?_)
  refine lv_if_eq (tgt := 212) C.1 C.2.1 (kd kX8_readsEntry_1 46 rfl) (by decide) (fun q => ?_) (fun q => ?_)
  · have hf := fif_pos q hf
    refine lv_iconst (v := (0 : Int32)) C.1 C.2.1 (kd kX8_readsEntry_1 51 rfl) (by decide) ?_
    exact fl_zret C hP hS rfl hf (kd kX8_readsEntry_1 52 rfl)
  have hf := fif_neg q hf
  exact w_X8_readsEntry_b204 C hK173 (v1) σ1 H locs ls hf hP hS (lv_sub hl [0, 1] rfl)
def f_X8_readsEntry_b173 : Nat → Int32 → fS → Option (Int32 × fS)
  | 0, _, _ => none
  | n_ + 1, v1, σ => (if (σ 164 10) = (99 : Int32) then f_X8_readsEntry_b188 (fun v1 σ => f_X8_readsEntry_b173 n_ v1 σ) (v1) ((4 : Int32)) (v1) σ else f_X8_readsEntry_b188 (fun v1 σ => f_X8_readsEntry_b173 n_ v1 σ) (v1) ((3 : Int32)) (v1) σ)
set_option maxRecDepth 100000 in
set_option maxHeartbeats 4000000 in
theorem w_X8_readsEntry_b173 {r : Int32} {σ' : fS}  (C : fC Γ p s m args meth c cX8_readsEntry (some .boolean) RX8 3) : ∀ (n_ : Nat) (v1 : Int32) (σ : fS) (H : Heap) (locs : List Loc) (ls : Array Slot), f_X8_readsEntry_b173 n_ v1 σ = some (r, σ') → fH Γ σ H → va_S (fAd Γ) s.heap H locs → lv_has ls 3 [(0, .ref (Γ.1 164)), (1, .int v1)] → W p l e ({ frames := 2, cells := 0, slots := 0, locals := 44 } : Room) s m args below meth c H locs 0 0 (MQ below (fQi Γ r σ') args s 0 0 (fAd Γ)) (F0 m 173 ls []) := by
  intro n_
  induction n_ with
  | zero =>
    intro v1 σ H locs ls hf
    cases hf
  | succ n_ ih =>
    intro v1 σ H locs ls hf hP hS hl
    have hf : (if (σ 164 10) = (99 : Int32) then f_X8_readsEntry_b188 (fun v1 σ => f_X8_readsEntry_b173 n_ v1 σ) (v1) ((4 : Int32)) (v1) σ else f_X8_readsEntry_b188 (fun v1 σ => f_X8_readsEntry_b173 n_ v1 σ) (v1) ((3 : Int32)) (v1) σ) = some (r, σ') := hf
    have hK173 := ih
    refine lv_iload_n C.1 C.2.1 (kd kX8_readsEntry_1 32 rfl) rfl (lv_at hl 1 rfl) ?_
    refine lv_aload_n C.1 C.2.1 (kd kX8_readsEntry_1 33 rfl) rfl (lv_at hl 0 rfl) ?_
    refine fl_get (j := 10) (v := .int (σ 164 10)) C hP rfl (Nat.le_of_ble_eq_true rfl) rfl inX8 (Nat.le_of_ble_eq_true rfl) tw_872 rfl (kd kX8_readsEntry_1 34 rfl) ?_
    refine lv_bipush (v := (99 : Int32)) C.1 C.2.1 (kd kX8_readsEntry_1 35 rfl) (by decide) ?_
    refine lv_icmp_ne (tgt := 187) C.1 C.2.1 (kd kX8_readsEntry_1 36 rfl) (by decide) (fun q => ?_) (fun q => ?_)
    · have hf := fif_neg q hf
      refine lv_iconst (v := (3 : Int32)) C.1 C.2.1 (kd kX8_readsEntry_1 39 rfl) (by decide) ?_
      exact w_X8_readsEntry_b188 C hK173 (v1) ((3 : Int32)) (v1) σ H locs ls hf hP hS (lv_sub hl [0, 1] rfl)
    have hf := fif_pos q hf
    refine lv_iconst (v := (4 : Int32)) C.1 C.2.1 (kd kX8_readsEntry_1 37 rfl) (by decide) ?_
    refine lv_goto (tgt := 188) C.1 C.2.1 (kd kX8_readsEntry_1 38 rfl) (by decide) ?_
    exact w_X8_readsEntry_b188 C hK173 (v1) ((4 : Int32)) (v1) σ H locs ls hf hP hS (lv_sub hl [0, 1] rfl)
def f_X8_readsEntry_b66 (σ : fS) : Option (Int32 × fS) := fL (fu σ 164 9 ((σ 164 9) + (1 : Int32))) (fun σ1 => (if (σ1 164 10) = (116 : Int32) then f_X8_readsEntry_b94 σ1 else (if (σ1 164 10) = (119 : Int32) then f_X8_readsEntry_b94 σ1 else f_X8_readsEntry_b173 fN ((0 : Int32)) σ1)))
set_option maxRecDepth 100000 in
set_option maxHeartbeats 4000000 in
theorem w_X8_readsEntry_b66 {r : Int32} {σ' : fS}  (C : fC Γ p s m args meth c cX8_readsEntry (some .boolean) RX8 3) : ∀ (σ : fS) (H : Heap) (locs : List Loc) (ls : Array Slot), f_X8_readsEntry_b66 σ = some (r, σ') → fH Γ σ H → va_S (fAd Γ) s.heap H locs → lv_has ls 3 [(0, .ref (Γ.1 164))] → W p l e ({ frames := 2, cells := 0, slots := 0, locals := 44 } : Room) s m args below meth c H locs 0 0 (MQ below (fQi Γ r σ') args s 0 0 (fAd Γ)) (F0 m 66 ls []) := by
  intro σ H locs ls hf hP hS hl
  unfold f_X8_readsEntry_b66 at hf
  refine lv_aload_n C.1 C.2.1 (kd kX8_readsEntry_0 32 rfl) rfl (lv_at hl 0 rfl) ?_
  refine lv_dup C.1 C.2.1 (kd kX8_readsEntry_0 33 rfl) rfl ?_
  refine fl_get (j := 9) (v := .int (σ 164 9)) C hP rfl (Nat.le_of_ble_eq_true rfl) rfl inX8 (Nat.le_of_ble_eq_true rfl) tw_871 rfl (kd kX8_readsEntry_0 34 rfl) ?_
  refine lv_iconst (v := (1 : Int32)) C.1 C.2.1 (kd kX8_readsEntry_0 35 rfl) (by decide) ?_
  refine lv_iadd C.1 C.2.1 (kd kX8_readsEntry_0 36 rfl) ?_
  obtain ⟨σ1, eσ1, hf⟩ := fL_some hf
  refine fl_put (j := 9) C hP hS rfl rfl (Nat.le_of_ble_eq_true rfl) rfl inX8 tyX8 tyX8_ok nmX8 (Nat.le_of_ble_eq_true rfl) tw_871 rfl rfl rfl (Nat.le_of_ble_eq_true rfl) (kd kX8_readsEntry_0 37 rfl) (fun H locs hP hS => ?_)
  have hP : fH Γ σ1 H := by rw [eσ1]; exact hP
  refine lv_aload_n C.1 C.2.1 (kd kX8_readsEntry_0 38 rfl) rfl (lv_at hl 0 rfl) ?_
  refine fl_get (j := 10) (v := .int (σ1 164 10)) C hP rfl (Nat.le_of_ble_eq_true rfl) rfl inX8 (Nat.le_of_ble_eq_true rfl) tw_872 rfl (kd kX8_readsEntry_0 39 rfl) ?_
  refine lv_bipush (v := (116 : Int32)) C.1 C.2.1 (kd kX8_readsEntry_0 40 rfl) (by decide) ?_
  refine lv_icmp_eq (tgt := 94) C.1 C.2.1 (kd kX8_readsEntry_0 41 rfl) (by decide) (fun q => ?_) (fun q => ?_)
  · have hf := fif_pos q hf
    exact w_X8_readsEntry_b94 C σ1 H locs ls hf hP hS (lv_sub hl [0] rfl)
  have hf := fif_neg q hf
  refine lv_aload_n C.1 C.2.1 (kd kX8_readsEntry_0 42 rfl) rfl (lv_at hl 0 rfl) ?_
  refine fl_get (j := 10) (v := .int (σ1 164 10)) C hP rfl (Nat.le_of_ble_eq_true rfl) rfl inX8 (Nat.le_of_ble_eq_true rfl) tw_872 rfl (kd kX8_readsEntry_0 43 rfl) ?_
  refine lv_bipush (v := (119 : Int32)) C.1 C.2.1 (kd kX8_readsEntry_0 44 rfl) (by decide) ?_
  refine lv_icmp_ne (tgt := 171) C.1 C.2.1 (kd kX8_readsEntry_0 45 rfl) (by decide) (fun q => ?_) (fun q => ?_)
  · have hf := fif_neg q hf
    refine lv_iconst (v := (0 : Int32)) C.1 C.2.1 (kd kX8_readsEntry_1 30 rfl) (by decide) ?_
    refine lv_istore_n (lv' := [(1, .int (0 : Int32)), (0, .ref (Γ.1 164))]) C.1 C.2.1 (kd kX8_readsEntry_1 31 rfl) rfl hl (Nat.le_of_ble_eq_true rfl) rfl (fun ls hl => ?_)
    exact w_X8_readsEntry_b173 C fN ((0 : Int32)) σ1 H locs ls hf hP hS (lv_sub hl [1, 0] rfl)
  have hf := fif_pos q hf
  exact w_X8_readsEntry_b94 C σ1 H locs ls hf hP hS (lv_sub hl [0] rfl)
def f_X8_readsEntry_b25 (s0 : Int32) (σ : fS) : Option (Int32 × fS) := fL (fu σ 164 10 s0) (fun σ1 => (if (σ1 164 10) = (99 : Int32) then f_X8_readsEntry_b66 σ1 else (if (σ1 164 10) = (118 : Int32) then f_X8_readsEntry_b66 σ1 else (if (σ1 164 10) = (116 : Int32) then f_X8_readsEntry_b66 σ1 else (if (σ1 164 10) = (119 : Int32) then f_X8_readsEntry_b66 σ1 else some ((0 : Int32), σ1))))))
set_option maxRecDepth 100000 in
set_option maxHeartbeats 4000000 in
theorem w_X8_readsEntry_b25 {r : Int32} {σ' : fS}  (C : fC Γ p s m args meth c cX8_readsEntry (some .boolean) RX8 3) : ∀ (s0 : Int32) (σ : fS) (H : Heap) (locs : List Loc) (ls : Array Slot), f_X8_readsEntry_b25 s0 σ = some (r, σ') → fH Γ σ H → va_S (fAd Γ) s.heap H locs → lv_has ls 3 [(0, .ref (Γ.1 164))] → W p l e ({ frames := 2, cells := 0, slots := 0, locals := 44 } : Room) s m args below meth c H locs 0 0 (MQ below (fQi Γ r σ') args s 0 0 (fAd Γ)) (F0 m 25 ls [.int s0, .ref (Γ.1 164)]) := by
  intro s0 σ H locs ls hf hP hS hl
  unfold f_X8_readsEntry_b25 at hf
  obtain ⟨σ1, eσ1, hf⟩ := fL_some hf
  refine fl_put (j := 10) C hP hS rfl rfl (Nat.le_of_ble_eq_true rfl) rfl inX8 tyX8 tyX8_ok nmX8 (Nat.le_of_ble_eq_true rfl) tw_872 rfl rfl rfl (Nat.le_of_ble_eq_true rfl) (kd kX8_readsEntry_0 13 rfl) (fun H locs hP hS => ?_)
  have hP : fH Γ σ1 H := by rw [eσ1]; exact hP
  refine lv_aload_n C.1 C.2.1 (kd kX8_readsEntry_0 14 rfl) rfl (lv_at hl 0 rfl) ?_
  refine fl_get (j := 10) (v := .int (σ1 164 10)) C hP rfl (Nat.le_of_ble_eq_true rfl) rfl inX8 (Nat.le_of_ble_eq_true rfl) tw_872 rfl (kd kX8_readsEntry_0 15 rfl) ?_
  refine lv_bipush (v := (99 : Int32)) C.1 C.2.1 (kd kX8_readsEntry_0 16 rfl) (by decide) ?_
  refine lv_icmp_eq (tgt := 66) C.1 C.2.1 (kd kX8_readsEntry_0 17 rfl) (by decide) (fun q => ?_) (fun q => ?_)
  · have hf := fif_pos q hf
    exact w_X8_readsEntry_b66 C σ1 H locs ls hf hP hS (lv_sub hl [0] rfl)
  have hf := fif_neg q hf
  refine lv_aload_n C.1 C.2.1 (kd kX8_readsEntry_0 18 rfl) rfl (lv_at hl 0 rfl) ?_
  refine fl_get (j := 10) (v := .int (σ1 164 10)) C hP rfl (Nat.le_of_ble_eq_true rfl) rfl inX8 (Nat.le_of_ble_eq_true rfl) tw_872 rfl (kd kX8_readsEntry_0 19 rfl) ?_
  refine lv_bipush (v := (118 : Int32)) C.1 C.2.1 (kd kX8_readsEntry_0 20 rfl) (by decide) ?_
  refine lv_icmp_eq (tgt := 66) C.1 C.2.1 (kd kX8_readsEntry_0 21 rfl) (by decide) (fun q => ?_) (fun q => ?_)
  · have hf := fif_pos q hf
    exact w_X8_readsEntry_b66 C σ1 H locs ls hf hP hS (lv_sub hl [0] rfl)
  have hf := fif_neg q hf
  refine lv_aload_n C.1 C.2.1 (kd kX8_readsEntry_0 22 rfl) rfl (lv_at hl 0 rfl) ?_
  refine fl_get (j := 10) (v := .int (σ1 164 10)) C hP rfl (Nat.le_of_ble_eq_true rfl) rfl inX8 (Nat.le_of_ble_eq_true rfl) tw_872 rfl (kd kX8_readsEntry_0 23 rfl) ?_
  refine lv_bipush (v := (116 : Int32)) C.1 C.2.1 (kd kX8_readsEntry_0 24 rfl) (by decide) ?_
  refine lv_icmp_eq (tgt := 66) C.1 C.2.1 (kd kX8_readsEntry_0 25 rfl) (by decide) (fun q => ?_) (fun q => ?_)
  · have hf := fif_pos q hf
    exact w_X8_readsEntry_b66 C σ1 H locs ls hf hP hS (lv_sub hl [0] rfl)
  have hf := fif_neg q hf
  refine lv_aload_n C.1 C.2.1 (kd kX8_readsEntry_0 26 rfl) rfl (lv_at hl 0 rfl) ?_
  refine fl_get (j := 10) (v := .int (σ1 164 10)) C hP rfl (Nat.le_of_ble_eq_true rfl) rfl inX8 (Nat.le_of_ble_eq_true rfl) tw_872 rfl (kd kX8_readsEntry_0 27 rfl) ?_
  refine lv_bipush (v := (119 : Int32)) C.1 C.2.1 (kd kX8_readsEntry_0 28 rfl) (by decide) ?_
  refine lv_icmp_eq (tgt := 66) C.1 C.2.1 (kd kX8_readsEntry_0 29 rfl) (by decide) (fun q => ?_) (fun q => ?_)
  · have hf := fif_pos q hf
    exact w_X8_readsEntry_b66 C σ1 H locs ls hf hP hS (lv_sub hl [0] rfl)
  have hf := fif_neg q hf
  refine lv_iconst (v := (0 : Int32)) C.1 C.2.1 (kd kX8_readsEntry_0 30 rfl) (by decide) ?_
  exact fl_zret C hP hS rfl hf (kd kX8_readsEntry_0 31 rfl)
def f_X8_readsEntry (σ : fS) : Option (Int32 × fS) := (if (σ 164 7) ≤ (σ 164 9) then f_X8_readsEntry_b25 ((0 : Int32)) σ else fb (σ 164 9) 60 (f_X8_readsEntry_b25 ((σ 169 (σ 164 9).toNatClampNeg)) σ))
set_option maxRecDepth 100000 in
set_option maxHeartbeats 4000000 in
theorem m_X8_readsEntry {Γ : fGm} (hI : fI Γ) (l : Launch) {σ : fS} {r : Int32} {σ' : fS} (hf : f_X8_readsEntry  σ = some (r, σ')) : Met l yX8_readsEntry (.code yX8_readsEntry cX8_readsEntry 3 (some .boolean) :: lw_g) ({ frames := 2, cells := 0, slots := 0, locals := 44 } : Room) (fPre Γ [.ref (Γ.1 164)] σ) (fQi Γ r σ') 0 0 (fAd Γ) := by
  refine fl_enter (own := RX8) hI (by decide +kernel) rfl (Nat.le_of_ble_eq_true rfl) ?_
  intro p e s m args below meth c ls C hl hP hS
  have hl : lv_has ls 3 [(0, .ref (Γ.1 164))] := hl
  obtain ⟨H, hH⟩ : ∃ H, H = s.heap := ⟨_, rfl⟩
  obtain ⟨locs, hL⟩ : ∃ L : List Loc, L = [] := ⟨_, rfl⟩
  have hP : fH Γ σ H := by rw [hH]; exact hP
  have hS : va_S (fAd Γ) s.heap H locs := by rw [hH, hL]; exact hS
  suffices hw : W p l e ({ frames := 2, cells := 0, slots := 0, locals := 44 } : Room) s m args below meth c H locs 0 0 (MQ below (fQi Γ r σ') args s 0 0 (fAd Γ)) (F0 m 0 ls []) by rw [hH, hL] at hw; exact hw
  unfold f_X8_readsEntry at hf
  refine lv_aload_n C.1 C.2.1 (kd kX8_readsEntry_0 0 rfl) rfl (lv_at hl 0 rfl) ?_
  refine lv_aload_n C.1 C.2.1 (kd kX8_readsEntry_0 1 rfl) rfl (lv_at hl 0 rfl) ?_
  refine fl_get (j := 9) (v := .int (σ 164 9)) C hP rfl (Nat.le_of_ble_eq_true rfl) rfl inX8 (Nat.le_of_ble_eq_true rfl) tw_871 rfl (kd kX8_readsEntry_0 2 rfl) ?_
  refine lv_aload_n C.1 C.2.1 (kd kX8_readsEntry_0 3 rfl) rfl (lv_at hl 0 rfl) ?_
  refine fl_get (j := 7) (v := .int (σ 164 7)) C hP rfl (Nat.le_of_ble_eq_true rfl) rfl inX8 (Nat.le_of_ble_eq_true rfl) tw_869 rfl (kd kX8_readsEntry_0 4 rfl) ?_
  refine lv_icmp_ge (tgt := 24) C.1 C.2.1 (kd kX8_readsEntry_0 5 rfl) (by decide) (fun q => ?_) (fun q => ?_)
  · have hf := fif_pos q hf
    refine lv_iconst (v := (0 : Int32)) C.1 C.2.1 (kd kX8_readsEntry_0 12 rfl) (by decide) ?_
    exact w_X8_readsEntry_b25 C ((0 : Int32)) σ H locs ls hf hP hS (lv_sub hl [0] rfl)
  have hf := fif_neg q hf
  refine lv_aload_n C.1 C.2.1 (kd kX8_readsEntry_0 6 rfl) rfl (lv_at hl 0 rfl) ?_
  refine fl_get (j := 6) (v := .ref (Γ.1 169)) C hP rfl (Nat.le_of_ble_eq_true rfl) rfl inX8 (Nat.le_of_ble_eq_true rfl) tw_868 rfl (kd kX8_readsEntry_0 7 rfl) ?_
  refine lv_aload_n C.1 C.2.1 (kd kX8_readsEntry_0 8 rfl) rfl (lv_at hl 0 rfl) ?_
  refine fl_get (j := 9) (v := .int (σ 164 9)) C hP rfl (Nat.le_of_ble_eq_true rfl) rfl inX8 (Nat.le_of_ble_eq_true rfl) tw_871 rfl (kd kX8_readsEntry_0 9 rfl) ?_
  obtain ⟨hq, hf⟩ := fb_some hf
  refine fl_cald C hP rfl hq (kd kX8_readsEntry_0 10 rfl) ?_
  refine lv_goto (tgt := 25) C.1 C.2.1 (kd kX8_readsEntry_0 11 rfl) (by decide) ?_
  exact w_X8_readsEntry_b25 C ((σ 169 (σ 164 9).toNatClampNeg)) σ H locs ls hf hP hS (lv_sub hl [0] rfl)
def f_X8_does (σ : fS) : Option (Int32 × fS) := (if (σ 164 10) = (99 : Int32) then fb (0 : Int32) 4 (fb (1 : Int32) 4 (fb (2 : Int32) 4 (fb (3 : Int32) 4 (fcall (f_X8_addsCrossing (σ 170 (0 : Int32).toNatClampNeg) (σ 170 (1 : Int32).toNatClampNeg) (σ 170 (2 : Int32).toNatClampNeg) (σ 170 (3 : Int32).toNatClampNeg) σ) (fun r1_ σ1 => some (r1_, σ1)))))) else if (σ 164 10) = (116 : Int32) then fb (0 : Int32) 4 (fb (1 : Int32) 4 (fcall (f_X8_setsTide (σ 170 (0 : Int32).toNatClampNeg) (σ 170 (1 : Int32).toNatClampNeg) σ) (fun r2_ σ2 => some (r2_, σ2)))) else if (σ 164 10) = (118 : Int32) then fb (0 : Int32) 4 (fb (1 : Int32) 4 (fb (2 : Int32) 4 (fcall (f_X8_addsVehicle (σ 170 (0 : Int32).toNatClampNeg) (σ 170 (1 : Int32).toNatClampNeg) (σ 170 (2 : Int32).toNatClampNeg) σ) (fun r3_ σ3 => some (r3_, σ3))))) else fb (0 : Int32) 4 (fb (1 : Int32) 4 (fcall (f_X8_setsWind (σ 170 (0 : Int32).toNatClampNeg) (σ 170 (1 : Int32).toNatClampNeg) σ) (fun r4_ σ4 => some (r4_, σ4)))))
set_option maxRecDepth 100000 in
set_option maxHeartbeats 4000000 in
theorem m_X8_does {Γ : fGm} (hI : fI Γ) (l : Launch) {σ : fS} {r : Int32} {σ' : fS} (hf : f_X8_does  σ = some (r, σ')) : Met l yX8_does (.code yX8_does cX8_does 1 (some .int) :: lw_g) ({ frames := 3, cells := 0, slots := 0, locals := 68 } : Room) (fPre Γ [.ref (Γ.1 164)] σ) (fQi Γ r σ') 0 0 (fAd Γ) := by
  refine fl_enter (own := RX8) hI (by decide +kernel) rfl (Nat.le_of_ble_eq_true rfl) ?_
  intro p e s m args below meth c ls C hl hP hS
  have hl : lv_has ls 1 [(0, .ref (Γ.1 164))] := hl
  obtain ⟨H, hH⟩ : ∃ H, H = s.heap := ⟨_, rfl⟩
  obtain ⟨locs, hL⟩ : ∃ L : List Loc, L = [] := ⟨_, rfl⟩
  have hP : fH Γ σ H := by rw [hH]; exact hP
  have hS : va_S (fAd Γ) s.heap H locs := by rw [hH, hL]; exact hS
  suffices hw : W p l e ({ frames := 3, cells := 0, slots := 0, locals := 68 } : Room) s m args below meth c H locs 0 0 (MQ below (fQi Γ r σ') args s 0 0 (fAd Γ)) (F0 m 0 ls []) by rw [hH, hL] at hw; exact hw
  unfold f_X8_does at hf
  refine lv_aload_n C.1 C.2.1 (kd kX8_does_0 0 rfl) rfl (lv_at hl 0 rfl) ?_
  refine fl_get (j := 10) (v := .int (σ 164 10)) C hP rfl (Nat.le_of_ble_eq_true rfl) rfl inX8 (Nat.le_of_ble_eq_true rfl) tw_872 rfl (kd kX8_does_0 1 rfl) ?_
  by_cases q0 : (σ 164 10) = (99 : Int32)
  · have hf := fif_pos q0 hf
    refine lv_lookup (tgt := 40) C.1 C.2.1 (kd kX8_does_0 2 rfl) (by decide) (by rw [q0] <;> rfl) (by decide) ?_
    refine lv_aload_n C.1 C.2.1 (kd kX8_does_0 3 rfl) rfl (lv_at hl 0 rfl) ?_
    refine lv_aload_n C.1 C.2.1 (kd kX8_does_0 4 rfl) rfl (lv_at hl 0 rfl) ?_
    refine fl_get (j := 11) (v := .ref (Γ.1 170)) C hP rfl (Nat.le_of_ble_eq_true rfl) rfl inX8 (Nat.le_of_ble_eq_true rfl) tw_873 rfl (kd kX8_does_0 5 rfl) ?_
    refine lv_iconst (v := (0 : Int32)) C.1 C.2.1 (kd kX8_does_0 6 rfl) (by decide) ?_
    obtain ⟨hq, hf⟩ := fb_some hf
    refine fl_iald C hP rfl hq (kd kX8_does_0 7 rfl) ?_
    refine lv_aload_n C.1 C.2.1 (kd kX8_does_0 8 rfl) rfl (lv_at hl 0 rfl) ?_
    refine fl_get (j := 11) (v := .ref (Γ.1 170)) C hP rfl (Nat.le_of_ble_eq_true rfl) rfl inX8 (Nat.le_of_ble_eq_true rfl) tw_873 rfl (kd kX8_does_0 9 rfl) ?_
    refine lv_iconst (v := (1 : Int32)) C.1 C.2.1 (kd kX8_does_0 10 rfl) (by decide) ?_
    obtain ⟨hq, hf⟩ := fb_some hf
    refine fl_iald C hP rfl hq (kd kX8_does_0 11 rfl) ?_
    refine lv_aload_n C.1 C.2.1 (kd kX8_does_0 12 rfl) rfl (lv_at hl 0 rfl) ?_
    refine fl_get (j := 11) (v := .ref (Γ.1 170)) C hP rfl (Nat.le_of_ble_eq_true rfl) rfl inX8 (Nat.le_of_ble_eq_true rfl) tw_873 rfl (kd kX8_does_0 13 rfl) ?_
    refine lv_iconst (v := (2 : Int32)) C.1 C.2.1 (kd kX8_does_0 14 rfl) (by decide) ?_
    obtain ⟨hq, hf⟩ := fb_some hf
    refine fl_iald C hP rfl hq (kd kX8_does_0 15 rfl) ?_
    refine lv_aload_n C.1 C.2.1 (kd kX8_does_0 16 rfl) rfl (lv_at hl 0 rfl) ?_
    refine fl_get (j := 11) (v := .ref (Γ.1 170)) C hP rfl (Nat.le_of_ble_eq_true rfl) rfl inX8 (Nat.le_of_ble_eq_true rfl) tw_873 rfl (kd kX8_does_0 17 rfl) ?_
    refine lv_iconst (v := (3 : Int32)) C.1 C.2.1 (kd kX8_does_0 18 rfl) (by decide) ?_
    obtain ⟨hq, hf⟩ := fb_some hf
    refine fl_iald C hP rfl hq (kd kX8_does_0 19 rfl) ?_
    obtain ⟨r1_, σ1, hσ1, hf⟩ := fcall_some hf
    refine fl_i hS (fl_runV (As := [.int (σ 170 (0 : Int32).toNatClampNeg), .int (σ 170 (1 : Int32).toNatClampNeg), .int (σ 170 (2 : Int32).toNatClampNeg), .int (σ 170 (3 : Int32).toNatClampNeg)]) (rest := []) C hP rfl (Nat.le_of_ble_eq_true rfl) rfl (m_X8_addsCrossing C.2.2.2.2.2.2.2.2 l  hσ1) (fgV tw_990 tw_992 tw_24 tw_75 tw_993) hd_X8_addsCrossing ⟨rfl, rfl, Nat.le_of_ble_eq_true rfl, Nat.le_of_ble_eq_true rfl⟩ rfl hl.1 rfl (Nat.le_of_ble_eq_true rfl) (kd kX8_does_0 20 rfl)) (fun H locs hP hS => ?_)
    exact fl_iret C hP hS hf (kd kX8_does_0 21 rfl)
  have hf := fif_neg q0 hf
  have z0 : ¬ (σ 164 10).toInt = 99 := fi_ne q0 (by decide)
  by_cases q1 : (σ 164 10) = (116 : Int32)
  · have hf := fif_pos q1 hf
    refine lv_lookup (tgt := 92) C.1 C.2.1 (kd kX8_does_0 2 rfl) (by decide) (by rw [q1] <;> rfl) (by decide) ?_
    refine lv_aload_n C.1 C.2.1 (kd kX8_does_0 37 rfl) rfl (lv_at hl 0 rfl) ?_
    refine lv_aload_n C.1 C.2.1 (kd kX8_does_0 38 rfl) rfl (lv_at hl 0 rfl) ?_
    refine fl_get (j := 11) (v := .ref (Γ.1 170)) C hP rfl (Nat.le_of_ble_eq_true rfl) rfl inX8 (Nat.le_of_ble_eq_true rfl) tw_873 rfl (kd kX8_does_0 39 rfl) ?_
    refine lv_iconst (v := (0 : Int32)) C.1 C.2.1 (kd kX8_does_0 40 rfl) (by decide) ?_
    obtain ⟨hq, hf⟩ := fb_some hf
    refine fl_iald C hP rfl hq (kd kX8_does_0 41 rfl) ?_
    refine lv_aload_n C.1 C.2.1 (kd kX8_does_0 42 rfl) rfl (lv_at hl 0 rfl) ?_
    refine fl_get (j := 11) (v := .ref (Γ.1 170)) C hP rfl (Nat.le_of_ble_eq_true rfl) rfl inX8 (Nat.le_of_ble_eq_true rfl) tw_873 rfl (kd kX8_does_0 43 rfl) ?_
    refine lv_iconst (v := (1 : Int32)) C.1 C.2.1 (kd kX8_does_0 44 rfl) (by decide) ?_
    obtain ⟨hq, hf⟩ := fb_some hf
    refine fl_iald C hP rfl hq (kd kX8_does_0 45 rfl) ?_
    obtain ⟨r2_, σ2, hσ2, hf⟩ := fcall_some hf
    refine fl_i hS (fl_runV (As := [.int (σ 170 (0 : Int32).toNatClampNeg), .int (σ 170 (1 : Int32).toNatClampNeg)]) (rest := []) C hP rfl (Nat.le_of_ble_eq_true rfl) rfl (m_X8_setsTide C.2.2.2.2.2.2.2.2 l  hσ2) (fgV tw_1042 tw_1044 tw_32 tw_75 tw_1045) hd_X8_setsTide ⟨rfl, rfl, Nat.le_of_ble_eq_true rfl, Nat.le_of_ble_eq_true rfl⟩ rfl hl.1 rfl (Nat.le_of_ble_eq_true rfl) (kd kX8_does_0 46 rfl)) (fun H locs hP hS => ?_)
    exact fl_iret C hP hS hf (kd kX8_does_0 47 rfl)
  have hf := fif_neg q1 hf
  have z1 : ¬ (σ 164 10).toInt = 116 := fi_ne q1 (by decide)
  by_cases q2 : (σ 164 10) = (118 : Int32)
  · have hf := fif_pos q2 hf
    refine lv_lookup (tgt := 69) C.1 C.2.1 (kd kX8_does_0 2 rfl) (by decide) (by rw [q2] <;> rfl) (by decide) ?_
    refine lv_aload_n C.1 C.2.1 (kd kX8_does_0 22 rfl) rfl (lv_at hl 0 rfl) ?_
    refine lv_aload_n C.1 C.2.1 (kd kX8_does_0 23 rfl) rfl (lv_at hl 0 rfl) ?_
    refine fl_get (j := 11) (v := .ref (Γ.1 170)) C hP rfl (Nat.le_of_ble_eq_true rfl) rfl inX8 (Nat.le_of_ble_eq_true rfl) tw_873 rfl (kd kX8_does_0 24 rfl) ?_
    refine lv_iconst (v := (0 : Int32)) C.1 C.2.1 (kd kX8_does_0 25 rfl) (by decide) ?_
    obtain ⟨hq, hf⟩ := fb_some hf
    refine fl_iald C hP rfl hq (kd kX8_does_0 26 rfl) ?_
    refine lv_aload_n C.1 C.2.1 (kd kX8_does_0 27 rfl) rfl (lv_at hl 0 rfl) ?_
    refine fl_get (j := 11) (v := .ref (Γ.1 170)) C hP rfl (Nat.le_of_ble_eq_true rfl) rfl inX8 (Nat.le_of_ble_eq_true rfl) tw_873 rfl (kd kX8_does_0 28 rfl) ?_
    refine lv_iconst (v := (1 : Int32)) C.1 C.2.1 (kd kX8_does_0 29 rfl) (by decide) ?_
    obtain ⟨hq, hf⟩ := fb_some hf
    refine fl_iald C hP rfl hq (kd kX8_does_0 30 rfl) ?_
    refine lv_aload_n C.1 C.2.1 (kd kX8_does_0 31 rfl) rfl (lv_at hl 0 rfl) ?_
    refine fl_get (j := 11) (v := .ref (Γ.1 170)) C hP rfl (Nat.le_of_ble_eq_true rfl) rfl inX8 (Nat.le_of_ble_eq_true rfl) tw_873 rfl (kd kX8_does_0 32 rfl) ?_
    refine lv_iconst (v := (2 : Int32)) C.1 C.2.1 (kd kX8_does_0 33 rfl) (by decide) ?_
    obtain ⟨hq, hf⟩ := fb_some hf
    refine fl_iald C hP rfl hq (kd kX8_does_0 34 rfl) ?_
    obtain ⟨r3_, σ3, hσ3, hf⟩ := fcall_some hf
    refine fl_i hS (fl_runV (As := [.int (σ 170 (0 : Int32).toNatClampNeg), .int (σ 170 (1 : Int32).toNatClampNeg), .int (σ 170 (2 : Int32).toNatClampNeg)]) (rest := []) C hP rfl (Nat.le_of_ble_eq_true rfl) rfl (m_X8_addsVehicle C.2.2.2.2.2.2.2.2 l  hσ3) (fgV tw_1006 tw_1008 tw_27 tw_75 tw_1009) hd_X8_addsVehicle ⟨rfl, rfl, Nat.le_of_ble_eq_true rfl, Nat.le_of_ble_eq_true rfl⟩ rfl hl.1 rfl (Nat.le_of_ble_eq_true rfl) (kd kX8_does_0 35 rfl)) (fun H locs hP hS => ?_)
    exact fl_iret C hP hS hf (kd kX8_does_0 36 rfl)
  have hf := fif_neg q2 hf
  have z2 : ¬ (σ 164 10).toInt = 118 := fi_ne q2 (by decide)
  refine lv_lookup (tgt := 109) C.1 C.2.1 (kd kX8_does_0 2 rfl) (by decide) (by show Op.lookupswitch.offset [(99, 36), (116, 88), (118, 65)] 105 _ = 105; rw [Op.lookupswitch.offset_cons, if_neg (fun z => z0 z.symm), Op.lookupswitch.offset_cons, if_neg (fun z => z1 z.symm), Op.lookupswitch.offset_cons, if_neg (fun z => z2 z.symm), Op.lookupswitch.offset_nil]) (by decide) ?_
  refine lv_aload_n C.1 C.2.1 (kd kX8_does_0 48 rfl) rfl (lv_at hl 0 rfl) ?_
  refine lv_aload_n C.1 C.2.1 (kd kX8_does_0 49 rfl) rfl (lv_at hl 0 rfl) ?_
  refine fl_get (j := 11) (v := .ref (Γ.1 170)) C hP rfl (Nat.le_of_ble_eq_true rfl) rfl inX8 (Nat.le_of_ble_eq_true rfl) tw_873 rfl (kd kX8_does_0 50 rfl) ?_
  refine lv_iconst (v := (0 : Int32)) C.1 C.2.1 (kd kX8_does_0 51 rfl) (by decide) ?_
  obtain ⟨hq, hf⟩ := fb_some hf
  refine fl_iald C hP rfl hq (kd kX8_does_0 52 rfl) ?_
  refine lv_aload_n C.1 C.2.1 (kd kX8_does_0 53 rfl) rfl (lv_at hl 0 rfl) ?_
  refine fl_get (j := 11) (v := .ref (Γ.1 170)) C hP rfl (Nat.le_of_ble_eq_true rfl) rfl inX8 (Nat.le_of_ble_eq_true rfl) tw_873 rfl (kd kX8_does_0 54 rfl) ?_
  refine lv_iconst (v := (1 : Int32)) C.1 C.2.1 (kd kX8_does_0 55 rfl) (by decide) ?_
  obtain ⟨hq, hf⟩ := fb_some hf
  refine fl_iald C hP rfl hq (kd kX8_does_0 56 rfl) ?_
  obtain ⟨r4_, σ4, hσ4, hf⟩ := fcall_some hf
  refine fl_i hS (fl_runV (As := [.int (σ 170 (0 : Int32).toNatClampNeg), .int (σ 170 (1 : Int32).toNatClampNeg)]) (rest := []) C hP rfl (Nat.le_of_ble_eq_true rfl) rfl (m_X8_setsWind C.2.2.2.2.2.2.2.2 l  hσ4) (fgV tw_1050 tw_1052 tw_33 tw_75 tw_1053) hd_X8_setsWind ⟨rfl, rfl, Nat.le_of_ble_eq_true rfl, Nat.le_of_ble_eq_true rfl⟩ rfl hl.1 rfl (Nat.le_of_ble_eq_true rfl) (kd kX8_does_0 57 rfl)) (fun H locs hP hS => ?_)
  exact fl_iret C hP hS hf (kd kX8_does_0 58 rfl)
def f_X8_read_b46 (σ : fS) : Option (Int32 × fS) := fL (fu σ 164 8 (σ 164 9)) (fun σ1 => fL (fu σ1 164 7 (0 : Int32)) (fun σ2 => some ((-10002 : Int32), σ2)))
set_option maxRecDepth 100000 in
set_option maxHeartbeats 4000000 in
theorem w_X8_read_b46 {r : Int32} {σ' : fS}  (C : fC Γ p s m args meth c cX8_read (some .int) RX8 4) : ∀ (σ : fS) (H : Heap) (locs : List Loc) (ls : Array Slot), f_X8_read_b46 σ = some (r, σ') → fH Γ σ H → va_S (fAd Γ) s.heap H locs → lv_has ls 4 [(0, .ref (Γ.1 164))] → W p l e ({ frames := 4, cells := 0, slots := 0, locals := 88 } : Room) s m args below meth c H locs 0 0 (MQ below (fQi Γ r σ') args s 0 0 (fAd Γ)) (F0 m 46 ls []) := by
  intro σ H locs ls hf hP hS hl
  unfold f_X8_read_b46 at hf
  refine lv_aload_n C.1 C.2.1 (kd kX8_read_0 23 rfl) rfl (lv_at hl 0 rfl) ?_
  refine lv_aload_n C.1 C.2.1 (kd kX8_read_0 24 rfl) rfl (lv_at hl 0 rfl) ?_
  refine fl_get (j := 9) (v := .int (σ 164 9)) C hP rfl (Nat.le_of_ble_eq_true rfl) rfl inX8 (Nat.le_of_ble_eq_true rfl) tw_871 rfl (kd kX8_read_0 25 rfl) ?_
  obtain ⟨σ1, eσ1, hf⟩ := fL_some hf
  refine fl_put (j := 8) C hP hS rfl rfl (Nat.le_of_ble_eq_true rfl) rfl inX8 tyX8 tyX8_ok nmX8 (Nat.le_of_ble_eq_true rfl) tw_870 rfl rfl rfl (Nat.le_of_ble_eq_true rfl) (kd kX8_read_0 26 rfl) (fun H locs hP hS => ?_)
  have hP : fH Γ σ1 H := by rw [eσ1]; exact hP
  refine lv_aload_n C.1 C.2.1 (kd kX8_read_0 27 rfl) rfl (lv_at hl 0 rfl) ?_
  refine lv_iconst (v := (0 : Int32)) C.1 C.2.1 (kd kX8_read_0 28 rfl) (by decide) ?_
  obtain ⟨σ2, eσ2, hf⟩ := fL_some hf
  refine fl_put (j := 7) C hP hS rfl rfl (Nat.le_of_ble_eq_true rfl) rfl inX8 tyX8 tyX8_ok nmX8 (Nat.le_of_ble_eq_true rfl) tw_869 rfl rfl rfl (Nat.le_of_ble_eq_true rfl) (kd kX8_read_0 29 rfl) (fun H locs hP hS => ?_)
  have hP : fH Γ σ2 H := by rw [eσ2]; exact hP
  refine lv_sipush (v := (-10002 : Int32)) C.1 C.2.1 (kd kX8_read_0 30 rfl) (by decide) ?_
  exact fl_iret C hP hS hf (kd kX8_read_0 31 rfl)
def f_X8_read_b74 : Nat → Int32 → fS → Option (Int32 × fS)
  | 0, _, _ => none
  | n_ + 1, v2, σ => (if (σ 164 7) ≤ (σ 164 9) then fL (fu σ 164 8 (-10004 : Int32)) (fun σ1 => fL (fu σ1 164 7 (0 : Int32)) (fun σ2 => fcall (f_X8_kept v2 σ2) (fun r3_ σ3 => some (r3_, σ3)))) else fcall (f_X8_readsEntry σ) (fun r4_ σ4 => fcall (f_X8_does σ4) (fun r5_ σ5 => fcall (f_X8_errs r5_ σ5) (fun r6_ σ6 => (if r6_ = 0 then fcall (f_X8_eats (59 : Int32) σ6) (fun r7_ σ7 => (fun v2 σ => f_X8_read_b74 n_ v2 σ) ((v2 + (1 : Int32))) σ7) else fcallv (f_X8_brings σ6) (fun σ8 => fL (fu σ8 164 8 (σ 164 9)) (fun σ9 => fL (fu σ9 164 7 (0 : Int32)) (fun σ10 => some ((-10005 : Int32), σ10)))))))))
set_option maxRecDepth 100000 in
set_option maxHeartbeats 4000000 in
theorem w_X8_read_b74 {r : Int32} {σ' : fS}  (C : fC Γ p s m args meth c cX8_read (some .int) RX8 4) : ∀ (n_ : Nat) (v2 : Int32) (σ : fS) (H : Heap) (locs : List Loc) (ls : Array Slot), f_X8_read_b74 n_ v2 σ = some (r, σ') → fH Γ σ H → va_S (fAd Γ) s.heap H locs → lv_has ls 4 [(0, .ref (Γ.1 164)), (2, .int v2)] → W p l e ({ frames := 4, cells := 0, slots := 0, locals := 88 } : Room) s m args below meth c H locs 0 0 (MQ below (fQi Γ r σ') args s 0 0 (fAd Γ)) (F0 m 74 ls []) := by
  intro n_
  induction n_ with
  | zero =>
    intro v2 σ H locs ls hf
    cases hf
  | succ n_ ih =>
    intro v2 σ H locs ls hf hP hS hl
    have hf : (if (σ 164 7) ≤ (σ 164 9) then fL (fu σ 164 8 (-10004 : Int32)) (fun σ1 => fL (fu σ1 164 7 (0 : Int32)) (fun σ2 => fcall (f_X8_kept v2 σ2) (fun r3_ σ3 => some (r3_, σ3)))) else fcall (f_X8_readsEntry σ) (fun r4_ σ4 => fcall (f_X8_does σ4) (fun r5_ σ5 => fcall (f_X8_errs r5_ σ5) (fun r6_ σ6 => (if r6_ = 0 then fcall (f_X8_eats (59 : Int32) σ6) (fun r7_ σ7 => (fun v2 σ => f_X8_read_b74 n_ v2 σ) ((v2 + (1 : Int32))) σ7) else fcallv (f_X8_brings σ6) (fun σ8 => fL (fu σ8 164 8 (σ 164 9)) (fun σ9 => fL (fu σ9 164 7 (0 : Int32)) (fun σ10 => some ((-10005 : Int32), σ10))))))))) = some (r, σ') := hf
    have hK74 := ih
    refine lv_aload_n C.1 C.2.1 (kd kX8_read_0 39 rfl) rfl (lv_at hl 0 rfl) ?_
    refine fl_get (j := 9) (v := .int (σ 164 9)) C hP rfl (Nat.le_of_ble_eq_true rfl) rfl inX8 (Nat.le_of_ble_eq_true rfl) tw_871 rfl (kd kX8_read_0 40 rfl) ?_
    refine lv_aload_n C.1 C.2.1 (kd kX8_read_0 41 rfl) rfl (lv_at hl 0 rfl) ?_
    refine fl_get (j := 7) (v := .int (σ 164 7)) C hP rfl (Nat.le_of_ble_eq_true rfl) rfl inX8 (Nat.le_of_ble_eq_true rfl) tw_869 rfl (kd kX8_read_0 42 rfl) ?_
    refine lv_icmp_ge (tgt := 136) C.1 C.2.1 (kd kX8_read_0 43 rfl) (by decide) (fun q => ?_) (fun q => ?_)
    · have hf := fif_pos q hf
      refine lv_aload_n C.1 C.2.1 (kd kX8_read_1 10 rfl) rfl (lv_at hl 0 rfl) ?_
      refine lv_sipush (v := (-10004 : Int32)) C.1 C.2.1 (kd kX8_read_1 11 rfl) (by decide) ?_
      obtain ⟨σ1, eσ1, hf⟩ := fL_some hf
      refine fl_put (j := 8) C hP hS rfl rfl (Nat.le_of_ble_eq_true rfl) rfl inX8 tyX8 tyX8_ok nmX8 (Nat.le_of_ble_eq_true rfl) tw_870 rfl rfl rfl (Nat.le_of_ble_eq_true rfl) (kd kX8_read_1 12 rfl) (fun H locs hP hS => ?_)
      have hP : fH Γ σ1 H := by rw [eσ1]; exact hP
      refine lv_aload_n C.1 C.2.1 (kd kX8_read_1 13 rfl) rfl (lv_at hl 0 rfl) ?_
      refine lv_iconst (v := (0 : Int32)) C.1 C.2.1 (kd kX8_read_1 14 rfl) (by decide) ?_
      obtain ⟨σ2, eσ2, hf⟩ := fL_some hf
      refine fl_put (j := 7) C hP hS rfl rfl (Nat.le_of_ble_eq_true rfl) rfl inX8 tyX8 tyX8_ok nmX8 (Nat.le_of_ble_eq_true rfl) tw_869 rfl rfl rfl (Nat.le_of_ble_eq_true rfl) (kd kX8_read_1 15 rfl) (fun H locs hP hS => ?_)
      have hP : fH Γ σ2 H := by rw [eσ2]; exact hP
      refine lv_aload_n C.1 C.2.1 (kd kX8_read_1 16 rfl) rfl (lv_at hl 0 rfl) ?_
      refine lv_iload_n C.1 C.2.1 (kd kX8_read_1 17 rfl) rfl (lv_at hl 1 rfl) ?_
      obtain ⟨r3_, σ3, hσ3, hf⟩ := fcall_some hf
      refine fl_i hS (fl_runV (As := [.int v2]) (rest := []) C hP rfl (Nat.le_of_ble_eq_true rfl) rfl (m_X8_kept C.2.2.2.2.2.2.2.2 l  hσ3) (fgV tw_971 tw_973 tw_22 tw_75 tw_974) hd_X8_kept ⟨rfl, rfl, Nat.le_of_ble_eq_true rfl, Nat.le_of_ble_eq_true rfl⟩ rfl hl.1 rfl (Nat.le_of_ble_eq_true rfl) (kd kX8_read_1 18 rfl)) (fun H locs hP hS => ?_)
      exact fl_iret C hP hS hf (kd kX8_read_1 19 rfl)
    have hf := fif_neg q hf
    refine lv_aload_n C.1 C.2.1 (kd kX8_read_0 44 rfl) rfl (lv_at hl 0 rfl) ?_
    refine fl_get (j := 9) (v := .int (σ 164 9)) C hP rfl (Nat.le_of_ble_eq_true rfl) rfl inX8 (Nat.le_of_ble_eq_true rfl) tw_871 rfl (kd kX8_read_0 45 rfl) ?_
    refine lv_istore_n (lv' := [(3, .int (σ 164 9)), (0, .ref (Γ.1 164)), (2, .int v2)]) C.1 C.2.1 (kd kX8_read_0 46 rfl) rfl hl (Nat.le_of_ble_eq_true rfl) rfl (fun ls hl => ?_)
    refine lv_aload_n C.1 C.2.1 (kd kX8_read_0 47 rfl) rfl (lv_at hl 1 rfl) ?_
    obtain ⟨r4_, σ4, hσ4, hf⟩ := fcall_some hf
    refine fl_i hS (fl_runV (As := []) (rest := []) C hP rfl (Nat.le_of_ble_eq_true rfl) rfl (m_X8_readsEntry C.2.2.2.2.2.2.2.2 l  hσ4) (fgV tw_1066 tw_1068 tw_34 tw_75 tw_1069) hd_X8_readsEntry ⟨rfl, rfl, Nat.le_of_ble_eq_true rfl, Nat.le_of_ble_eq_true rfl⟩ rfl hl.1 rfl (Nat.le_of_ble_eq_true rfl) (kd kX8_read_0 48 rfl)) (fun H locs hP hS => ?_)
    refine lv_istore_n (lv' := [(1, .int r4_), (3, .int (σ 164 9)), (0, .ref (Γ.1 164)), (2, .int v2)]) C.1 C.2.1 (kd kX8_read_0 49 rfl) rfl hl (Nat.le_of_ble_eq_true rfl) rfl (fun ls hl => ?_)
    refine lv_aload_n C.1 C.2.1 (kd kX8_read_0 50 rfl) rfl (lv_at hl 2 rfl) ?_
    obtain ⟨r5_, σ5, hσ5, hf⟩ := fcall_some hf
    refine fl_i hS (fl_runV (As := []) (rest := []) C hP rfl (Nat.le_of_ble_eq_true rfl) rfl (m_X8_does C.2.2.2.2.2.2.2.2 l  hσ5) (fgV tw_1078 tw_1080 tw_37 tw_75 tw_1081) hd_X8_does ⟨rfl, rfl, Nat.le_of_ble_eq_true rfl, Nat.le_of_ble_eq_true rfl⟩ rfl hl.1 rfl (Nat.le_of_ble_eq_true rfl) (kd kX8_read_0 51 rfl)) (fun H locs hP hS => ?_)
    obtain ⟨r6_, σ6, hσ6, hf⟩ := fcall_some hf
    refine fl_i hS (fl_runS (As := [.int r5_]) (rest := []) C hP (m_X8_errs C.2.2.2.2.2.2.2.2 l  hσ6) (fgS tw_975 tw_976 tw_75 tw_977) hs_X8_errs ⟨rfl, rfl, Nat.le_of_ble_eq_true rfl, Nat.le_of_ble_eq_true rfl⟩ rfl hl.1 rfl (Nat.le_of_ble_eq_true rfl) (kd kX8_read_0 52 rfl)) (fun H locs hP hS => ?_)
    refine lv_if_eq (tgt := 123) C.1 C.2.1 (kd kX8_read_0 53 rfl) (by decide) (fun q => ?_) (fun q => ?_)
    · have hf := fif_pos q hf
      refine lv_iinc (v := (v2 + (1 : Int32))) (lv' := [(2, .int (v2 + (1 : Int32))), (1, .int r4_), (3, .int (σ 164 9)), (0, .ref (Γ.1 164))]) C.1 C.2.1 (kd kX8_read_1 4 rfl) hl (k := 3) rfl rfl (Nat.le_of_ble_eq_true rfl) rfl (fun ls hl => ?_)
      refine lv_aload_n C.1 C.2.1 (kd kX8_read_1 5 rfl) rfl (lv_at hl 3 rfl) ?_
      refine lv_bipush (v := (59 : Int32)) C.1 C.2.1 (kd kX8_read_1 6 rfl) (by decide) ?_
      obtain ⟨r7_, σ7, hσ7, hf⟩ := fcall_some hf
      refine fl_i hS (fl_runV (As := [.int (59 : Int32)]) (rest := []) C hP rfl (Nat.le_of_ble_eq_true rfl) rfl (m_X8_eats C.2.2.2.2.2.2.2.2 l  hσ7) (fgV tw_1074 tw_1076 tw_36 tw_75 tw_1077) hd_X8_eats ⟨rfl, rfl, Nat.le_of_ble_eq_true rfl, Nat.le_of_ble_eq_true rfl⟩ rfl hl.1 rfl (Nat.le_of_ble_eq_true rfl) (kd kX8_read_1 7 rfl)) (fun H locs hP hS => ?_)
      refine lv_istore_n (lv' := [(1, .int r7_), (2, .int (v2 + (1 : Int32))), (3, .int (σ 164 9)), (0, .ref (Γ.1 164))]) C.1 C.2.1 (kd kX8_read_1 8 rfl) rfl hl (Nat.le_of_ble_eq_true rfl) rfl (fun ls hl => ?_)
      refine lv_goto (tgt := 74) C.1 C.2.1 (kd kX8_read_1 9 rfl) (by decide) ?_
      exact hK74 ((v2 + (1 : Int32))) σ7 H locs ls hf hP hS (lv_sub hl [3, 1] rfl)
    have hf := fif_neg q hf
    refine lv_aload_n C.1 C.2.1 (kd kX8_read_0 54 rfl) rfl (lv_at hl 2 rfl) ?_
    obtain ⟨σ8, hσ8, hf⟩ := fcallv_some hf
    refine fl_v hS (fl_runV (As := []) (rest := []) C hP rfl (Nat.le_of_ble_eq_true rfl) rfl (m_X8_brings C.2.2.2.2.2.2.2.2 l  hσ8) (fgV tw_1082 tw_1084 tw_38 tw_75 tw_1085) hd_X8_brings ⟨rfl, rfl, Nat.le_of_ble_eq_true rfl, Nat.le_of_ble_eq_true rfl⟩ rfl hl.1 rfl (Nat.le_of_ble_eq_true rfl) (kd kX8_read_0 55 rfl)) (fun H locs hP hS => ?_)
    refine lv_aload_n C.1 C.2.1 (kd kX8_read_0 56 rfl) rfl (lv_at hl 2 rfl) ?_
    refine lv_iload_n C.1 C.2.1 (kd kX8_read_0 57 rfl) rfl (lv_at hl 1 rfl) ?_
    obtain ⟨σ9, eσ9, hf⟩ := fL_some hf
    refine fl_put (j := 8) C hP hS rfl rfl (Nat.le_of_ble_eq_true rfl) rfl inX8 tyX8 tyX8_ok nmX8 (Nat.le_of_ble_eq_true rfl) tw_870 rfl rfl rfl (Nat.le_of_ble_eq_true rfl) (kd kX8_read_0 58 rfl) (fun H locs hP hS => ?_)
    have hP : fH Γ σ9 H := by rw [eσ9]; exact hP
    refine lv_aload_n C.1 C.2.1 (kd kX8_read_0 59 rfl) rfl (lv_at hl 2 rfl) ?_
    refine lv_iconst (v := (0 : Int32)) C.1 C.2.1 (kd kX8_read_1 0 rfl) (by decide) ?_
    obtain ⟨σ10, eσ10, hf⟩ := fL_some hf
    refine fl_put (j := 7) C hP hS rfl rfl (Nat.le_of_ble_eq_true rfl) rfl inX8 tyX8 tyX8_ok nmX8 (Nat.le_of_ble_eq_true rfl) tw_869 rfl rfl rfl (Nat.le_of_ble_eq_true rfl) (kd kX8_read_1 1 rfl) (fun H locs hP hS => ?_)
    have hP : fH Γ σ10 H := by rw [eσ10]; exact hP
    refine lv_sipush (v := (-10005 : Int32)) C.1 C.2.1 (kd kX8_read_1 2 rfl) (by decide) ?_
    exact fl_iret C hP hS hf (kd kX8_read_1 3 rfl)
def f_X8_read_b31 (v1 : Int32) (σ : fS) : Option (Int32 × fS) := (if v1 = 0 then f_X8_read_b46 σ else (if (σ 164 7) ≤ (σ 164 9) then fcallv (f_X8_remembers σ) (fun σ1 => fL (fu σ1 164 9 (0 : Int32)) (fun σ2 => f_X8_read_b74 fN ((0 : Int32)) σ2)) else f_X8_read_b46 σ))
set_option maxRecDepth 100000 in
set_option maxHeartbeats 4000000 in
theorem w_X8_read_b31 {r : Int32} {σ' : fS}  (C : fC Γ p s m args meth c cX8_read (some .int) RX8 4) : ∀ (v1 : Int32) (σ : fS) (H : Heap) (locs : List Loc) (ls : Array Slot), f_X8_read_b31 v1 σ = some (r, σ') → fH Γ σ H → va_S (fAd Γ) s.heap H locs → lv_has ls 4 [(0, .ref (Γ.1 164)), (1, .int v1)] → W p l e ({ frames := 4, cells := 0, slots := 0, locals := 88 } : Room) s m args below meth c H locs 0 0 (MQ below (fQi Γ r σ') args s 0 0 (fAd Γ)) (F0 m 31 ls []) := by
  intro v1 σ H locs ls hf hP hS hl
  unfold f_X8_read_b31 at hf
  refine lv_iload_n C.1 C.2.1 (kd kX8_read_0 16 rfl) rfl (lv_at hl 1 rfl) ?_
  refine lv_if_eq (tgt := 46) C.1 C.2.1 (kd kX8_read_0 17 rfl) (by decide) (fun q => ?_) (fun q => ?_)
  · have hf := fif_pos q hf
    exact w_X8_read_b46 C σ H locs ls hf hP hS (lv_sub hl [0] rfl)
  have hf := fif_neg q hf
  refine lv_aload_n C.1 C.2.1 (kd kX8_read_0 18 rfl) rfl (lv_at hl 0 rfl) ?_
  refine fl_get (j := 9) (v := .int (σ 164 9)) C hP rfl (Nat.le_of_ble_eq_true rfl) rfl inX8 (Nat.le_of_ble_eq_true rfl) tw_871 rfl (kd kX8_read_0 19 rfl) ?_
  refine lv_aload_n C.1 C.2.1 (kd kX8_read_0 20 rfl) rfl (lv_at hl 0 rfl) ?_
  refine fl_get (j := 7) (v := .int (σ 164 7)) C hP rfl (Nat.le_of_ble_eq_true rfl) rfl inX8 (Nat.le_of_ble_eq_true rfl) tw_869 rfl (kd kX8_read_0 21 rfl) ?_
  refine lv_icmp_ge (tgt := 63) C.1 C.2.1 (kd kX8_read_0 22 rfl) (by decide) (fun q => ?_) (fun q => ?_)
  · have hf := fif_pos q hf
    refine lv_aload_n C.1 C.2.1 (kd kX8_read_0 32 rfl) rfl (lv_at hl 0 rfl) ?_
    obtain ⟨σ1, hσ1, hf⟩ := fcallv_some hf
    refine fl_v hS (fl_runV (As := []) (rest := []) C hP rfl (Nat.le_of_ble_eq_true rfl) rfl (m_X8_remembers C.2.2.2.2.2.2.2.2 l  hσ1) (fgV tw_960 tw_962 tw_20 tw_75 tw_963) hd_X8_remembers ⟨rfl, rfl, Nat.le_of_ble_eq_true rfl, Nat.le_of_ble_eq_true rfl⟩ rfl hl.1 rfl (Nat.le_of_ble_eq_true rfl) (kd kX8_read_0 33 rfl)) (fun H locs hP hS => ?_)
    refine lv_aload_n C.1 C.2.1 (kd kX8_read_0 34 rfl) rfl (lv_at hl 0 rfl) ?_
    refine lv_iconst (v := (0 : Int32)) C.1 C.2.1 (kd kX8_read_0 35 rfl) (by decide) ?_
    obtain ⟨σ2, eσ2, hf⟩ := fL_some hf
    refine fl_put (j := 9) C hP hS rfl rfl (Nat.le_of_ble_eq_true rfl) rfl inX8 tyX8 tyX8_ok nmX8 (Nat.le_of_ble_eq_true rfl) tw_871 rfl rfl rfl (Nat.le_of_ble_eq_true rfl) (kd kX8_read_0 36 rfl) (fun H locs hP hS => ?_)
    have hP : fH Γ σ2 H := by rw [eσ2]; exact hP
    refine lv_iconst (v := (0 : Int32)) C.1 C.2.1 (kd kX8_read_0 37 rfl) (by decide) ?_
    refine lv_istore_n (lv' := [(2, .int (0 : Int32)), (0, .ref (Γ.1 164)), (1, .int v1)]) C.1 C.2.1 (kd kX8_read_0 38 rfl) rfl hl (Nat.le_of_ble_eq_true rfl) rfl (fun ls hl => ?_)
    exact w_X8_read_b74 C fN ((0 : Int32)) σ2 H locs ls hf hP hS (lv_sub hl [1, 0] rfl)
  have hf := fif_neg q hf
  exact w_X8_read_b46 C σ H locs ls hf hP hS (lv_sub hl [0] rfl)
def f_X8_read_b10 : Nat → Int32 → fS → Option (Int32 × fS)
  | 0, _, _ => none
  | n_ + 1, v1, σ => (if v1 = 0 then f_X8_read_b31 (v1) σ else fcall (f_X8_eats (59 : Int32) σ) (fun r1_ σ1 => (if r1_ = 0 then f_X8_read_b31 (v1) σ1 else fcall (f_X8_readsEntry σ1) (fun r2_ σ2 => (fun v1 σ => f_X8_read_b10 n_ v1 σ) (r2_) σ2))))
set_option maxRecDepth 100000 in
set_option maxHeartbeats 4000000 in
theorem w_X8_read_b10 {r : Int32} {σ' : fS}  (C : fC Γ p s m args meth c cX8_read (some .int) RX8 4) : ∀ (n_ : Nat) (v1 : Int32) (σ : fS) (H : Heap) (locs : List Loc) (ls : Array Slot), f_X8_read_b10 n_ v1 σ = some (r, σ') → fH Γ σ H → va_S (fAd Γ) s.heap H locs → lv_has ls 4 [(0, .ref (Γ.1 164)), (1, .int v1)] → W p l e ({ frames := 4, cells := 0, slots := 0, locals := 88 } : Room) s m args below meth c H locs 0 0 (MQ below (fQi Γ r σ') args s 0 0 (fAd Γ)) (F0 m 10 ls []) := by
  intro n_
  induction n_ with
  | zero =>
    intro v1 σ H locs ls hf
    cases hf
  | succ n_ ih =>
    intro v1 σ H locs ls hf hP hS hl
    have hf : (if v1 = 0 then f_X8_read_b31 (v1) σ else fcall (f_X8_eats (59 : Int32) σ) (fun r1_ σ1 => (if r1_ = 0 then f_X8_read_b31 (v1) σ1 else fcall (f_X8_readsEntry σ1) (fun r2_ σ2 => (fun v1 σ => f_X8_read_b10 n_ v1 σ) (r2_) σ2)))) = some (r, σ') := hf
    have hK10 := ih
    refine lv_iload_n C.1 C.2.1 (kd kX8_read_0 6 rfl) rfl (lv_at hl 1 rfl) ?_
    refine lv_if_eq (tgt := 31) C.1 C.2.1 (kd kX8_read_0 7 rfl) (by decide) (fun q => ?_) (fun q => ?_)
    · have hf := fif_pos q hf
      exact w_X8_read_b31 C (v1) σ H locs ls hf hP hS (lv_sub hl [0, 1] rfl)
    have hf := fif_neg q hf
    refine lv_aload_n C.1 C.2.1 (kd kX8_read_0 8 rfl) rfl (lv_at hl 0 rfl) ?_
    refine lv_bipush (v := (59 : Int32)) C.1 C.2.1 (kd kX8_read_0 9 rfl) (by decide) ?_
    obtain ⟨r1_, σ1, hσ1, hf⟩ := fcall_some hf
    refine fl_i hS (fl_runV (As := [.int (59 : Int32)]) (rest := []) C hP rfl (Nat.le_of_ble_eq_true rfl) rfl (m_X8_eats C.2.2.2.2.2.2.2.2 l  hσ1) (fgV tw_1074 tw_1076 tw_36 tw_75 tw_1077) hd_X8_eats ⟨rfl, rfl, Nat.le_of_ble_eq_true rfl, Nat.le_of_ble_eq_true rfl⟩ rfl hl.1 rfl (Nat.le_of_ble_eq_true rfl) (kd kX8_read_0 10 rfl)) (fun H locs hP hS => ?_)
    refine lv_if_eq (tgt := 31) C.1 C.2.1 (kd kX8_read_0 11 rfl) (by decide) (fun q => ?_) (fun q => ?_)
    · have hf := fif_pos q hf
      exact w_X8_read_b31 C (v1) σ1 H locs ls hf hP hS (lv_sub hl [0, 1] rfl)
    have hf := fif_neg q hf
    refine lv_aload_n C.1 C.2.1 (kd kX8_read_0 12 rfl) rfl (lv_at hl 0 rfl) ?_
    obtain ⟨r2_, σ2, hσ2, hf⟩ := fcall_some hf
    refine fl_i hS (fl_runV (As := []) (rest := []) C hP rfl (Nat.le_of_ble_eq_true rfl) rfl (m_X8_readsEntry C.2.2.2.2.2.2.2.2 l  hσ2) (fgV tw_1066 tw_1068 tw_34 tw_75 tw_1069) hd_X8_readsEntry ⟨rfl, rfl, Nat.le_of_ble_eq_true rfl, Nat.le_of_ble_eq_true rfl⟩ rfl hl.1 rfl (Nat.le_of_ble_eq_true rfl) (kd kX8_read_0 13 rfl)) (fun H locs hP hS => ?_)
    refine lv_istore_n (lv' := [(1, .int r2_), (0, .ref (Γ.1 164))]) C.1 C.2.1 (kd kX8_read_0 14 rfl) rfl hl (Nat.le_of_ble_eq_true rfl) rfl (fun ls hl => ?_)
    refine lv_goto (tgt := 10) C.1 C.2.1 (kd kX8_read_0 15 rfl) (by decide) ?_
    exact hK10 (r2_) σ2 H locs ls hf hP hS (lv_sub hl [1, 0] rfl)
def f_X8_read (σ : fS) : Option (Int32 × fS) := fL (fu σ 164 9 (0 : Int32)) (fun σ1 => fcall (f_X8_readsEntry σ1) (fun r2_ σ2 => f_X8_read_b10 fN (r2_) σ2))
set_option maxRecDepth 100000 in
set_option maxHeartbeats 4000000 in
theorem m_X8_read {Γ : fGm} (hI : fI Γ) (l : Launch) {σ : fS} {r : Int32} {σ' : fS} (hf : f_X8_read  σ = some (r, σ')) : Met l yX8_read (.code yX8_read cX8_read 4 (some .int) :: lw_g) ({ frames := 4, cells := 0, slots := 0, locals := 88 } : Room) (fPre Γ [.ref (Γ.1 164)] σ) (fQi Γ r σ') 0 0 (fAd Γ) := by
  refine fl_enter (own := RX8) hI (by decide +kernel) rfl (Nat.le_of_ble_eq_true rfl) ?_
  intro p e s m args below meth c ls C hl hP hS
  have hl : lv_has ls 4 [(0, .ref (Γ.1 164))] := hl
  obtain ⟨H, hH⟩ : ∃ H, H = s.heap := ⟨_, rfl⟩
  obtain ⟨locs, hL⟩ : ∃ L : List Loc, L = [] := ⟨_, rfl⟩
  have hP : fH Γ σ H := by rw [hH]; exact hP
  have hS : va_S (fAd Γ) s.heap H locs := by rw [hH, hL]; exact hS
  suffices hw : W p l e ({ frames := 4, cells := 0, slots := 0, locals := 88 } : Room) s m args below meth c H locs 0 0 (MQ below (fQi Γ r σ') args s 0 0 (fAd Γ)) (F0 m 0 ls []) by rw [hH, hL] at hw; exact hw
  unfold f_X8_read at hf
  refine lv_aload_n C.1 C.2.1 (kd kX8_read_0 0 rfl) rfl (lv_at hl 0 rfl) ?_
  refine lv_iconst (v := (0 : Int32)) C.1 C.2.1 (kd kX8_read_0 1 rfl) (by decide) ?_
  obtain ⟨σ1, eσ1, hf⟩ := fL_some hf
  refine fl_put (j := 9) C hP hS rfl rfl (Nat.le_of_ble_eq_true rfl) rfl inX8 tyX8 tyX8_ok nmX8 (Nat.le_of_ble_eq_true rfl) tw_871 rfl rfl rfl (Nat.le_of_ble_eq_true rfl) (kd kX8_read_0 2 rfl) (fun H locs hP hS => ?_)
  have hP : fH Γ σ1 H := by rw [eσ1]; exact hP
  refine lv_aload_n C.1 C.2.1 (kd kX8_read_0 3 rfl) rfl (lv_at hl 0 rfl) ?_
  obtain ⟨r2_, σ2, hσ2, hf⟩ := fcall_some hf
  refine fl_i hS (fl_runV (As := []) (rest := []) C hP rfl (Nat.le_of_ble_eq_true rfl) rfl (m_X8_readsEntry C.2.2.2.2.2.2.2.2 l  hσ2) (fgV tw_1066 tw_1068 tw_34 tw_75 tw_1069) hd_X8_readsEntry ⟨rfl, rfl, Nat.le_of_ble_eq_true rfl, Nat.le_of_ble_eq_true rfl⟩ rfl hl.1 rfl (Nat.le_of_ble_eq_true rfl) (kd kX8_read_0 4 rfl)) (fun H locs hP hS => ?_)
  refine lv_istore_n (lv' := [(1, .int r2_), (0, .ref (Γ.1 164))]) C.1 C.2.1 (kd kX8_read_0 5 rfl) rfl hl (Nat.le_of_ble_eq_true rfl) rfl (fun ls hl => ?_)
  exact w_X8_read_b10 C fN (r2_) σ2 H locs ls hf hP hS (lv_sub hl [1, 0] rfl)
def f_X8_faultPosition (σ : fS) : Option (Int32 × fS) := some ((σ 164 8), σ)
set_option maxRecDepth 100000 in
set_option maxHeartbeats 4000000 in
theorem m_X8_faultPosition {Γ : fGm} (hI : fI Γ) (l : Launch) {σ : fS} {r : Int32} {σ' : fS} (hf : f_X8_faultPosition  σ = some (r, σ')) : Met l yX8_faultPosition (.code yX8_faultPosition cX8_faultPosition 1 (some .int) :: lw_g) ({ frames := 0, cells := 0, slots := 0, locals := 0 } : Room) (fPre Γ [.ref (Γ.1 164)] σ) (fQi Γ r σ') 0 0 (fAd Γ) := by
  refine fl_enter (own := RX8) hI (by decide +kernel) rfl (Nat.le_of_ble_eq_true rfl) ?_
  intro p e s m args below meth c ls C hl hP hS
  have hl : lv_has ls 1 [(0, .ref (Γ.1 164))] := hl
  obtain ⟨H, hH⟩ : ∃ H, H = s.heap := ⟨_, rfl⟩
  obtain ⟨locs, hL⟩ : ∃ L : List Loc, L = [] := ⟨_, rfl⟩
  have hP : fH Γ σ H := by rw [hH]; exact hP
  have hS : va_S (fAd Γ) s.heap H locs := by rw [hH, hL]; exact hS
  suffices hw : W p l e ({ frames := 0, cells := 0, slots := 0, locals := 0 } : Room) s m args below meth c H locs 0 0 (MQ below (fQi Γ r σ') args s 0 0 (fAd Γ)) (F0 m 0 ls []) by rw [hH, hL] at hw; exact hw
  unfold f_X8_faultPosition at hf
  refine lv_aload_n C.1 C.2.1 (kd kX8_faultPosition_0 0 rfl) rfl (lv_at hl 0 rfl) ?_
  refine fl_get (j := 8) (v := .int (σ 164 8)) C hP rfl (Nat.le_of_ble_eq_true rfl) rfl inX8 (Nat.le_of_ble_eq_true rfl) tw_870 rfl (kd kX8_faultPosition_0 1 rfl) ?_
  exact fl_iret C hP hS hf (kd kX8_faultPosition_0 2 rfl)
def f_X8_undo_b23 : Nat → Int32 → fS → Option (Int32 × fS)
  | 0, _, _ => none
  | n_ + 1, v1, σ => (if (277 : Int32) ≤ v1 then some ((σ 164 3), σ) else fb (((277 : Int32) * (σ 164 3)) + v1) 1662 (fb v1 277 (fL (fu σ 165 v1.toNatClampNeg (σ 167 (((277 : Int32) * (σ 164 3)) + v1).toNatClampNeg)) (fun σ1 => (fun v1 σ => f_X8_undo_b23 n_ v1 σ) ((v1 + (1 : Int32))) σ1))))
set_option maxRecDepth 100000 in
set_option maxHeartbeats 4000000 in
theorem w_X8_undo_b23 {r : Int32} {σ' : fS}  (C : fC Γ p s m args meth c cX8_undo (some .int) RX8 2) : ∀ (n_ : Nat) (v1 : Int32) (σ : fS) (H : Heap) (locs : List Loc) (ls : Array Slot), f_X8_undo_b23 n_ v1 σ = some (r, σ') → fH Γ σ H → va_S (fAd Γ) s.heap H locs → lv_has ls 2 [(0, .ref (Γ.1 164)), (1, .int v1)] → W p l e ({ frames := 0, cells := 0, slots := 0, locals := 0 } : Room) s m args below meth c H locs 0 0 (MQ below (fQi Γ r σ') args s 0 0 (fAd Γ)) (F0 m 23 ls []) := by
  intro n_
  induction n_ with
  | zero =>
    intro v1 σ H locs ls hf
    cases hf
  | succ n_ ih =>
    intro v1 σ H locs ls hf hP hS hl
    have hf : (if (277 : Int32) ≤ v1 then some ((σ 164 3), σ) else fb (((277 : Int32) * (σ 164 3)) + v1) 1662 (fb v1 277 (fL (fu σ 165 v1.toNatClampNeg (σ 167 (((277 : Int32) * (σ 164 3)) + v1).toNatClampNeg)) (fun σ1 => (fun v1 σ => f_X8_undo_b23 n_ v1 σ) ((v1 + (1 : Int32))) σ1)))) = some (r, σ') := hf
    have hK23 := ih
    refine lv_iload_n C.1 C.2.1 (kd kX8_undo_0 13 rfl) rfl (lv_at hl 1 rfl) ?_
    refine lv_sipush (v := (277 : Int32)) C.1 C.2.1 (kd kX8_undo_0 14 rfl) (by decide) ?_
    refine lv_icmp_ge (tgt := 57) C.1 C.2.1 (kd kX8_undo_0 15 rfl) (by decide) (fun q => ?_) (fun q => ?_)
    · have hf := fif_pos q hf
      refine lv_aload_n C.1 C.2.1 (kd kX8_undo_0 31 rfl) rfl (lv_at hl 0 rfl) ?_
      refine fl_get (j := 3) (v := .int (σ 164 3)) C hP rfl (Nat.le_of_ble_eq_true rfl) rfl inX8 (Nat.le_of_ble_eq_true rfl) tw_865 rfl (kd kX8_undo_0 32 rfl) ?_
      exact fl_iret C hP hS hf (kd kX8_undo_0 33 rfl)
    have hf := fif_neg q hf
    refine lv_aload_n C.1 C.2.1 (kd kX8_undo_0 16 rfl) rfl (lv_at hl 0 rfl) ?_
    refine fl_get (j := 0) (v := .ref (Γ.1 165)) C hP rfl (Nat.le_of_ble_eq_true rfl) rfl inX8 (Nat.le_of_ble_eq_true rfl) tw_862 rfl (kd kX8_undo_0 17 rfl) ?_
    refine lv_iload_n C.1 C.2.1 (kd kX8_undo_0 18 rfl) rfl (lv_at hl 1 rfl) ?_
    refine lv_aload_n C.1 C.2.1 (kd kX8_undo_0 19 rfl) rfl (lv_at hl 0 rfl) ?_
    refine fl_get (j := 2) (v := .ref (Γ.1 167)) C hP rfl (Nat.le_of_ble_eq_true rfl) rfl inX8 (Nat.le_of_ble_eq_true rfl) tw_864 rfl (kd kX8_undo_0 20 rfl) ?_
    refine lv_sipush (v := (277 : Int32)) C.1 C.2.1 (kd kX8_undo_0 21 rfl) (by decide) ?_
    refine lv_aload_n C.1 C.2.1 (kd kX8_undo_0 22 rfl) rfl (lv_at hl 0 rfl) ?_
    refine fl_get (j := 3) (v := .int (σ 164 3)) C hP rfl (Nat.le_of_ble_eq_true rfl) rfl inX8 (Nat.le_of_ble_eq_true rfl) tw_865 rfl (kd kX8_undo_0 23 rfl) ?_
    refine lv_imul C.1 C.2.1 (kd kX8_undo_0 24 rfl) ?_
    refine lv_iload_n C.1 C.2.1 (kd kX8_undo_0 25 rfl) rfl (lv_at hl 1 rfl) ?_
    refine lv_iadd C.1 C.2.1 (kd kX8_undo_0 26 rfl) ?_
    obtain ⟨hq, hf⟩ := fb_some hf
    refine fl_iald C hP rfl hq (kd kX8_undo_0 27 rfl) ?_
    obtain ⟨hq, hf⟩ := fb_some hf
    obtain ⟨σ1, eσ1, hf⟩ := fL_some hf
    refine fl_iast C hP hS rfl hq (kd kX8_undo_0 28 rfl) (fun H locs hP hS => ?_)
    have hP : fH Γ σ1 H := by rw [eσ1]; exact hP
    refine lv_iinc (v := (v1 + (1 : Int32))) (lv' := [(1, .int (v1 + (1 : Int32))), (0, .ref (Γ.1 164))]) C.1 C.2.1 (kd kX8_undo_0 29 rfl) hl (k := 1) rfl rfl (Nat.le_of_ble_eq_true rfl) rfl (fun ls hl => ?_)
    refine lv_goto (tgt := 23) C.1 C.2.1 (kd kX8_undo_0 30 rfl) (by decide) ?_
    exact hK23 ((v1 + (1 : Int32))) σ1 H locs ls hf hP hS (lv_sub hl [1, 0] rfl)
def f_X8_undo (σ : fS) : Option (Int32 × fS) := (if (σ 164 3) = 0 then some ((-10004 : Int32), σ) else fL (fu σ 164 3 ((σ 164 3) - (1 : Int32))) (fun σ1 => f_X8_undo_b23 fN ((0 : Int32)) σ1))
set_option maxRecDepth 100000 in
set_option maxHeartbeats 4000000 in
theorem m_X8_undo {Γ : fGm} (hI : fI Γ) (l : Launch) {σ : fS} {r : Int32} {σ' : fS} (hf : f_X8_undo  σ = some (r, σ')) : Met l yX8_undo (.code yX8_undo cX8_undo 2 (some .int) :: lw_g) ({ frames := 0, cells := 0, slots := 0, locals := 0 } : Room) (fPre Γ [.ref (Γ.1 164)] σ) (fQi Γ r σ') 0 0 (fAd Γ) := by
  refine fl_enter (own := RX8) hI (by decide +kernel) rfl (Nat.le_of_ble_eq_true rfl) ?_
  intro p e s m args below meth c ls C hl hP hS
  have hl : lv_has ls 2 [(0, .ref (Γ.1 164))] := hl
  obtain ⟨H, hH⟩ : ∃ H, H = s.heap := ⟨_, rfl⟩
  obtain ⟨locs, hL⟩ : ∃ L : List Loc, L = [] := ⟨_, rfl⟩
  have hP : fH Γ σ H := by rw [hH]; exact hP
  have hS : va_S (fAd Γ) s.heap H locs := by rw [hH, hL]; exact hS
  suffices hw : W p l e ({ frames := 0, cells := 0, slots := 0, locals := 0 } : Room) s m args below meth c H locs 0 0 (MQ below (fQi Γ r σ') args s 0 0 (fAd Γ)) (F0 m 0 ls []) by rw [hH, hL] at hw; exact hw
  unfold f_X8_undo at hf
  refine lv_aload_n C.1 C.2.1 (kd kX8_undo_0 0 rfl) rfl (lv_at hl 0 rfl) ?_
  refine fl_get (j := 3) (v := .int (σ 164 3)) C hP rfl (Nat.le_of_ble_eq_true rfl) rfl inX8 (Nat.le_of_ble_eq_true rfl) tw_865 rfl (kd kX8_undo_0 1 rfl) ?_
  refine lv_if_ne (tgt := 11) C.1 C.2.1 (kd kX8_undo_0 2 rfl) (by decide) (fun q => ?_) (fun q => ?_)
  · have hf := fif_neg q hf
    refine lv_aload_n C.1 C.2.1 (kd kX8_undo_0 5 rfl) rfl (lv_at hl 0 rfl) ?_
    refine lv_dup C.1 C.2.1 (kd kX8_undo_0 6 rfl) rfl ?_
    refine fl_get (j := 3) (v := .int (σ 164 3)) C hP rfl (Nat.le_of_ble_eq_true rfl) rfl inX8 (Nat.le_of_ble_eq_true rfl) tw_865 rfl (kd kX8_undo_0 7 rfl) ?_
    refine lv_iconst (v := (1 : Int32)) C.1 C.2.1 (kd kX8_undo_0 8 rfl) (by decide) ?_
    refine lv_isub C.1 C.2.1 (kd kX8_undo_0 9 rfl) ?_
    obtain ⟨σ1, eσ1, hf⟩ := fL_some hf
    refine fl_put (j := 3) C hP hS rfl rfl (Nat.le_of_ble_eq_true rfl) rfl inX8 tyX8 tyX8_ok nmX8 (Nat.le_of_ble_eq_true rfl) tw_865 rfl rfl rfl (Nat.le_of_ble_eq_true rfl) (kd kX8_undo_0 10 rfl) (fun H locs hP hS => ?_)
    have hP : fH Γ σ1 H := by rw [eσ1]; exact hP
    refine lv_iconst (v := (0 : Int32)) C.1 C.2.1 (kd kX8_undo_0 11 rfl) (by decide) ?_
    refine lv_istore_n (lv' := [(1, .int (0 : Int32)), (0, .ref (Γ.1 164))]) C.1 C.2.1 (kd kX8_undo_0 12 rfl) rfl hl (Nat.le_of_ble_eq_true rfl) rfl (fun ls hl => ?_)
    exact w_X8_undo_b23 C fN ((0 : Int32)) σ1 H locs ls hf hP hS (lv_sub hl [1, 0] rfl)
  have hf := fif_pos q hf
  refine lv_sipush (v := (-10004 : Int32)) C.1 C.2.1 (kd kX8_undo_0 3 rfl) (by decide) ?_
  exact fl_iret C hP hS hf (kd kX8_undo_0 4 rfl)
def f_X8_floatHeight (x1 : Int32) (σ : fS) : Option (UInt32 × fS) := fb ((0 : Int32) + (x1 / (60 : Int32))) 277 (fb (((0 : Int32) + (x1 / (60 : Int32))) + (1 : Int32)) 277 (fg ((FP.fsub (FP.i2f (σ 165 (((0 : Int32) + (x1 / (60 : Int32))) + (1 : Int32)).toNatClampNeg)) (FP.i2f (σ 165 ((0 : Int32) + (x1 / (60 : Int32))).toNatClampNeg))) &&& 0x7fffffff ≤ 0x7f800000) (fg ((FP.fdiv (FP.i2f (x1 - ((60 : Int32) * (x1 / (60 : Int32))))) (1114636288 : UInt32)) &&& 0x7fffffff ≤ 0x7f800000) (fg ((FP.fmul (FP.fsub (FP.i2f (σ 165 (((0 : Int32) + (x1 / (60 : Int32))) + (1 : Int32)).toNatClampNeg)) (FP.i2f (σ 165 ((0 : Int32) + (x1 / (60 : Int32))).toNatClampNeg))) (FP.fdiv (FP.i2f (x1 - ((60 : Int32) * (x1 / (60 : Int32))))) (1114636288 : UInt32))) &&& 0x7fffffff ≤ 0x7f800000) (fg ((FP.fadd (FP.i2f (σ 165 ((0 : Int32) + (x1 / (60 : Int32))).toNatClampNeg)) (FP.fmul (FP.fsub (FP.i2f (σ 165 (((0 : Int32) + (x1 / (60 : Int32))) + (1 : Int32)).toNatClampNeg)) (FP.i2f (σ 165 ((0 : Int32) + (x1 / (60 : Int32))).toNatClampNeg))) (FP.fdiv (FP.i2f (x1 - ((60 : Int32) * (x1 / (60 : Int32))))) (1114636288 : UInt32)))) &&& 0x7fffffff ≤ 0x7f800000) (some ((FP.fadd (FP.i2f (σ 165 ((0 : Int32) + (x1 / (60 : Int32))).toNatClampNeg)) (FP.fmul (FP.fsub (FP.i2f (σ 165 (((0 : Int32) + (x1 / (60 : Int32))) + (1 : Int32)).toNatClampNeg)) (FP.i2f (σ 165 ((0 : Int32) + (x1 / (60 : Int32))).toNatClampNeg))) (FP.fdiv (FP.i2f (x1 - ((60 : Int32) * (x1 / (60 : Int32))))) (1114636288 : UInt32)))), σ)))))))
set_option maxRecDepth 100000 in
set_option maxHeartbeats 4000000 in
theorem m_X8_floatHeight {Γ : fGm} (hI : fI Γ) (l : Launch) {x1 : Int32} {σ : fS} {r : UInt32} {σ' : fS} (hf : f_X8_floatHeight x1 σ = some (r, σ')) : Met l yX8_floatHeight (.code yX8_floatHeight cX8_floatHeight 5 (some .float) :: lw_g) ({ frames := 0, cells := 0, slots := 0, locals := 0 } : Room) (fPre Γ [.ref (Γ.1 164), .int x1] σ) (fQf Γ r σ') 0 0 (fAd Γ) := by
  refine fl_enter (own := RX8) hI (by decide +kernel) rfl (Nat.le_of_ble_eq_true rfl) ?_
  intro p e s m args below meth c ls C hl hP hS
  have hl : lv_has ls 5 [(0, .ref (Γ.1 164)), (1, .int x1)] := hl
  obtain ⟨H, hH⟩ : ∃ H, H = s.heap := ⟨_, rfl⟩
  obtain ⟨locs, hL⟩ : ∃ L : List Loc, L = [] := ⟨_, rfl⟩
  have hP : fH Γ σ H := by rw [hH]; exact hP
  have hS : va_S (fAd Γ) s.heap H locs := by rw [hH, hL]; exact hS
  suffices hw : W p l e ({ frames := 0, cells := 0, slots := 0, locals := 0 } : Room) s m args below meth c H locs 0 0 (MQ below (fQf Γ r σ') args s 0 0 (fAd Γ)) (F0 m 0 ls []) by rw [hH, hL] at hw; exact hw
  unfold f_X8_floatHeight at hf
  refine lv_iload_n C.1 C.2.1 (kd kX8_floatHeight_0 0 rfl) rfl (lv_at hl 1 rfl) ?_
  refine lv_bipush (v := (60 : Int32)) C.1 C.2.1 (kd kX8_floatHeight_0 1 rfl) (by decide) ?_
  refine lv_idiv C.1 C.2.1 (kd kX8_floatHeight_0 2 rfl) (by decide) ?_
  refine lv_istore_n (lv' := [(2, .int (x1 / (60 : Int32))), (0, .ref (Γ.1 164)), (1, .int x1)]) C.1 C.2.1 (kd kX8_floatHeight_0 3 rfl) rfl hl (Nat.le_of_ble_eq_true rfl) rfl (fun ls hl => ?_)
  refine lv_aload_n C.1 C.2.1 (kd kX8_floatHeight_0 4 rfl) rfl (lv_at hl 1 rfl) ?_
  refine fl_get (j := 0) (v := .ref (Γ.1 165)) C hP rfl (Nat.le_of_ble_eq_true rfl) rfl inX8 (Nat.le_of_ble_eq_true rfl) tw_862 rfl (kd kX8_floatHeight_0 5 rfl) ?_
  refine lv_iconst (v := (0 : Int32)) C.1 C.2.1 (kd kX8_floatHeight_0 6 rfl) (by decide) ?_
  refine lv_iload_n C.1 C.2.1 (kd kX8_floatHeight_0 7 rfl) rfl (lv_at hl 0 rfl) ?_
  refine lv_iadd C.1 C.2.1 (kd kX8_floatHeight_0 8 rfl) ?_
  obtain ⟨hq, hf⟩ := fb_some hf
  refine fl_iald C hP rfl hq (kd kX8_floatHeight_0 9 rfl) ?_
  refine lv_i2f C.1 C.2.1 (kd kX8_floatHeight_0 10 rfl) ?_
  refine lv_fstore_n (lv' := [(3, .float (FP.i2f (σ 165 ((0 : Int32) + (x1 / (60 : Int32))).toNatClampNeg))), (2, .int (x1 / (60 : Int32))), (0, .ref (Γ.1 164)), (1, .int x1)]) C.1 C.2.1 (kd kX8_floatHeight_0 11 rfl) rfl hl (Nat.le_of_ble_eq_true rfl) rfl (fun ls hl => ?_)
  refine lv_aload_n C.1 C.2.1 (kd kX8_floatHeight_0 12 rfl) rfl (lv_at hl 2 rfl) ?_
  refine fl_get (j := 0) (v := .ref (Γ.1 165)) C hP rfl (Nat.le_of_ble_eq_true rfl) rfl inX8 (Nat.le_of_ble_eq_true rfl) tw_862 rfl (kd kX8_floatHeight_0 13 rfl) ?_
  refine lv_iconst (v := (0 : Int32)) C.1 C.2.1 (kd kX8_floatHeight_0 14 rfl) (by decide) ?_
  refine lv_iload_n C.1 C.2.1 (kd kX8_floatHeight_0 15 rfl) rfl (lv_at hl 1 rfl) ?_
  refine lv_iadd C.1 C.2.1 (kd kX8_floatHeight_0 16 rfl) ?_
  refine lv_iconst (v := (1 : Int32)) C.1 C.2.1 (kd kX8_floatHeight_0 17 rfl) (by decide) ?_
  refine lv_iadd C.1 C.2.1 (kd kX8_floatHeight_0 18 rfl) ?_
  obtain ⟨hq, hf⟩ := fb_some hf
  refine fl_iald C hP rfl hq (kd kX8_floatHeight_0 19 rfl) ?_
  refine lv_i2f C.1 C.2.1 (kd kX8_floatHeight_0 20 rfl) ?_
  refine lv_fstore (lv' := [(4, .float (FP.i2f (σ 165 (((0 : Int32) + (x1 / (60 : Int32))) + (1 : Int32)).toNatClampNeg))), (3, .float (FP.i2f (σ 165 ((0 : Int32) + (x1 / (60 : Int32))).toNatClampNeg))), (2, .int (x1 / (60 : Int32))), (0, .ref (Γ.1 164)), (1, .int x1)]) C.1 C.2.1 (kd kX8_floatHeight_0 21 rfl) hl (Nat.le_of_ble_eq_true rfl) rfl (fun ls hl => ?_)
  refine lv_fload_n C.1 C.2.1 (kd kX8_floatHeight_0 22 rfl) rfl (lv_at hl 1 rfl) ?_
  refine lv_fload C.1 C.2.1 (kd kX8_floatHeight_0 23 rfl) (lv_at hl 0 rfl) ?_
  refine lv_fload_n C.1 C.2.1 (kd kX8_floatHeight_0 24 rfl) rfl (lv_at hl 1 rfl) ?_
  obtain ⟨hq, hf⟩ := fg_some hf
  refine lv_fsub C.1 C.2.1 (kd kX8_floatHeight_0 25 rfl) hq ?_
  refine lv_iload_n C.1 C.2.1 (kd kX8_floatHeight_0 26 rfl) rfl (lv_at hl 4 rfl) ?_
  refine lv_bipush (v := (60 : Int32)) C.1 C.2.1 (kd kX8_floatHeight_0 27 rfl) (by decide) ?_
  refine lv_iload_n C.1 C.2.1 (kd kX8_floatHeight_0 28 rfl) rfl (lv_at hl 2 rfl) ?_
  refine lv_imul C.1 C.2.1 (kd kX8_floatHeight_0 29 rfl) ?_
  refine lv_isub C.1 C.2.1 (kd kX8_floatHeight_0 30 rfl) ?_
  refine lv_i2f C.1 C.2.1 (kd kX8_floatHeight_0 31 rfl) ?_
  refine lv_ldcf (v := 1114636288) C.1 C.2.1 C.2.2.2.2.1 (C.2.2.2.2.2.1 _ tw_1146) (kd kX8_floatHeight_0 32 rfl) ?_
  obtain ⟨hq, hf⟩ := fg_some hf
  refine lv_fdiv C.1 C.2.1 (kd kX8_floatHeight_0 33 rfl) hq ?_
  obtain ⟨hq, hf⟩ := fg_some hf
  refine lv_fmul C.1 C.2.1 (kd kX8_floatHeight_0 34 rfl) hq ?_
  obtain ⟨hq, hf⟩ := fg_some hf
  refine lv_fadd C.1 C.2.1 (kd kX8_floatHeight_0 35 rfl) hq ?_
  exact fl_fret C hP hS hf (kd kX8_floatHeight_0 36 rfl)
def f_X8_heightAt (x1 : Int32) (σ : fS) : Option (Int32 × fS) := fcall (f_X8_floatHeight x1 σ) (fun r1_ σ1 => some ((FP.f2i r1_), σ1))
set_option maxRecDepth 100000 in
set_option maxHeartbeats 4000000 in
theorem m_X8_heightAt {Γ : fGm} (hI : fI Γ) (l : Launch) {x1 : Int32} {σ : fS} {r : Int32} {σ' : fS} (hf : f_X8_heightAt x1 σ = some (r, σ')) : Met l yX8_heightAt (.code yX8_heightAt cX8_heightAt 2 (some .int) :: lw_g) ({ frames := 1, cells := 0, slots := 0, locals := 24 } : Room) (fPre Γ [.ref (Γ.1 164), .int x1] σ) (fQi Γ r σ') 0 0 (fAd Γ) := by
  refine fl_enter (own := RX8) hI (by decide +kernel) rfl (Nat.le_of_ble_eq_true rfl) ?_
  intro p e s m args below meth c ls C hl hP hS
  have hl : lv_has ls 2 [(0, .ref (Γ.1 164)), (1, .int x1)] := hl
  obtain ⟨H, hH⟩ : ∃ H, H = s.heap := ⟨_, rfl⟩
  obtain ⟨locs, hL⟩ : ∃ L : List Loc, L = [] := ⟨_, rfl⟩
  have hP : fH Γ σ H := by rw [hH]; exact hP
  have hS : va_S (fAd Γ) s.heap H locs := by rw [hH, hL]; exact hS
  suffices hw : W p l e ({ frames := 1, cells := 0, slots := 0, locals := 24 } : Room) s m args below meth c H locs 0 0 (MQ below (fQi Γ r σ') args s 0 0 (fAd Γ)) (F0 m 0 ls []) by rw [hH, hL] at hw; exact hw
  unfold f_X8_heightAt at hf
  refine lv_aload_n C.1 C.2.1 (kd kX8_heightAt_0 0 rfl) rfl (lv_at hl 0 rfl) ?_
  refine lv_iload_n C.1 C.2.1 (kd kX8_heightAt_0 1 rfl) rfl (lv_at hl 1 rfl) ?_
  obtain ⟨r1_, σ1, hσ1, hf⟩ := fcall_some hf
  refine fl_f hS (fl_runV (As := [.int x1]) (rest := []) C hP rfl (Nat.le_of_ble_eq_true rfl) rfl (m_X8_floatHeight C.2.2.2.2.2.2.2.2 l  hσ1) (fgV tw_1142 tw_1144 tw_49 tw_75 tw_1145) hd_X8_floatHeight ⟨rfl, rfl, Nat.le_of_ble_eq_true rfl, Nat.le_of_ble_eq_true rfl⟩ rfl hl.1 rfl (Nat.le_of_ble_eq_true rfl) (kd kX8_heightAt_0 2 rfl)) (fun H locs hP hS => ?_)
  refine lv_f2i C.1 C.2.1 (kd kX8_heightAt_0 3 rfl) ?_
  exact fl_iret C hP hS hf (kd kX8_heightAt_0 4 rfl)
def f_X8_waterAt (x1 : Int32) (x2 : Int32) (σ : fS) : Option (Int32 × fS) := fcall (f_X8_berthOf x1 (0 : Int32) σ) (fun r1_ σ1 => fcall (f_X8_heightAt x2 σ1) (fun r2_ σ2 => some ((r1_ + r2_), σ2)))
set_option maxRecDepth 100000 in
set_option maxHeartbeats 4000000 in
theorem m_X8_waterAt {Γ : fGm} (hI : fI Γ) (l : Launch) {x1 : Int32} {x2 : Int32} {σ : fS} {r : Int32} {σ' : fS} (hf : f_X8_waterAt x1 x2 σ = some (r, σ')) : Met l yX8_waterAt (.code yX8_waterAt cX8_waterAt 3 (some .int) :: lw_g) ({ frames := 2, cells := 0, slots := 0, locals := 45 } : Room) (fPre Γ [.ref (Γ.1 164), .int x1, .int x2] σ) (fQi Γ r σ') 0 0 (fAd Γ) := by
  refine fl_enter (own := RX8) hI (by decide +kernel) rfl (Nat.le_of_ble_eq_true rfl) ?_
  intro p e s m args below meth c ls C hl hP hS
  have hl : lv_has ls 3 [(0, .ref (Γ.1 164)), (1, .int x1), (2, .int x2)] := hl
  obtain ⟨H, hH⟩ : ∃ H, H = s.heap := ⟨_, rfl⟩
  obtain ⟨locs, hL⟩ : ∃ L : List Loc, L = [] := ⟨_, rfl⟩
  have hP : fH Γ σ H := by rw [hH]; exact hP
  have hS : va_S (fAd Γ) s.heap H locs := by rw [hH, hL]; exact hS
  suffices hw : W p l e ({ frames := 2, cells := 0, slots := 0, locals := 45 } : Room) s m args below meth c H locs 0 0 (MQ below (fQi Γ r σ') args s 0 0 (fAd Γ)) (F0 m 0 ls []) by rw [hH, hL] at hw; exact hw
  unfold f_X8_waterAt at hf
  refine lv_aload_n C.1 C.2.1 (kd kX8_waterAt_0 0 rfl) rfl (lv_at hl 0 rfl) ?_
  refine lv_iload_n C.1 C.2.1 (kd kX8_waterAt_0 1 rfl) rfl (lv_at hl 1 rfl) ?_
  refine lv_iconst (v := (0 : Int32)) C.1 C.2.1 (kd kX8_waterAt_0 2 rfl) (by decide) ?_
  obtain ⟨r1_, σ1, hσ1, hf⟩ := fcall_some hf
  refine fl_i hS (fl_runV (As := [.int x1, .int (0 : Int32)]) (rest := []) C hP rfl (Nat.le_of_ble_eq_true rfl) rfl (m_X8_berthOf C.2.2.2.2.2.2.2.2 l  hσ1) (fgV tw_1034 tw_1036 tw_31 tw_75 tw_1037) hd_X8_berthOf ⟨rfl, rfl, Nat.le_of_ble_eq_true rfl, Nat.le_of_ble_eq_true rfl⟩ rfl hl.1 rfl (Nat.le_of_ble_eq_true rfl) (kd kX8_waterAt_0 3 rfl)) (fun H locs hP hS => ?_)
  refine lv_aload_n C.1 C.2.1 (kd kX8_waterAt_0 4 rfl) rfl (lv_at hl 0 rfl) ?_
  refine lv_iload_n C.1 C.2.1 (kd kX8_waterAt_0 5 rfl) rfl (lv_at hl 2 rfl) ?_
  obtain ⟨r2_, σ2, hσ2, hf⟩ := fcall_some hf
  refine fl_i hS (fl_runV (As := [.int x2]) (rest := [.int r1_]) C hP rfl (Nat.le_of_ble_eq_true rfl) rfl (m_X8_heightAt C.2.2.2.2.2.2.2.2 l  hσ2) (fgV tw_1138 tw_1140 tw_48 tw_75 tw_1141) hd_X8_heightAt ⟨rfl, rfl, Nat.le_of_ble_eq_true rfl, Nat.le_of_ble_eq_true rfl⟩ rfl hl.1 rfl (Nat.le_of_ble_eq_true rfl) (kd kX8_waterAt_0 6 rfl)) (fun H locs hP hS => ?_)
  refine lv_iadd C.1 C.2.1 (kd kX8_waterAt_0 7 rfl) ?_
  exact fl_iret C hP hS hf (kd kX8_waterAt_0 8 rfl)
def f_X8_isDeep (x1 : Int32) (x2 : Int32) (x3 : Int32) (σ : fS) : Option (Int32 × fS) := fcall (f_X8_waterAt x2 x3 σ) (fun r1_ σ1 => fcall (f_X8_shipOf x1 (0 : Int32) σ1) (fun r2_ σ2 => fb (97 : Int32) 277 ((if r1_ < (r2_ + (σ2 165 (97 : Int32).toNatClampNeg)) then some ((0 : Int32), σ2) else some ((1 : Int32), σ2)))))
set_option maxRecDepth 100000 in
set_option maxHeartbeats 4000000 in
theorem m_X8_isDeep {Γ : fGm} (hI : fI Γ) (l : Launch) {x1 : Int32} {x2 : Int32} {x3 : Int32} {σ : fS} {r : Int32} {σ' : fS} (hf : f_X8_isDeep x1 x2 x3 σ = some (r, σ')) : Met l yX8_isDeep (.code yX8_isDeep cX8_isDeep 4 (some .boolean) :: lw_g) ({ frames := 3, cells := 0, slots := 0, locals := 67 } : Room) (fPre Γ [.ref (Γ.1 164), .int x1, .int x2, .int x3] σ) (fQi Γ r σ') 0 0 (fAd Γ) := by
  refine fl_enter (own := RX8) hI (by decide +kernel) rfl (Nat.le_of_ble_eq_true rfl) ?_
  intro p e s m args below meth c ls C hl hP hS
  have hl : lv_has ls 4 [(0, .ref (Γ.1 164)), (1, .int x1), (2, .int x2), (3, .int x3)] := hl
  obtain ⟨H, hH⟩ : ∃ H, H = s.heap := ⟨_, rfl⟩
  obtain ⟨locs, hL⟩ : ∃ L : List Loc, L = [] := ⟨_, rfl⟩
  have hP : fH Γ σ H := by rw [hH]; exact hP
  have hS : va_S (fAd Γ) s.heap H locs := by rw [hH, hL]; exact hS
  suffices hw : W p l e ({ frames := 3, cells := 0, slots := 0, locals := 67 } : Room) s m args below meth c H locs 0 0 (MQ below (fQi Γ r σ') args s 0 0 (fAd Γ)) (F0 m 0 ls []) by rw [hH, hL] at hw; exact hw
  unfold f_X8_isDeep at hf
  refine lv_aload_n C.1 C.2.1 (kd kX8_isDeep_0 0 rfl) rfl (lv_at hl 0 rfl) ?_
  refine lv_iload_n C.1 C.2.1 (kd kX8_isDeep_0 1 rfl) rfl (lv_at hl 2 rfl) ?_
  refine lv_iload_n C.1 C.2.1 (kd kX8_isDeep_0 2 rfl) rfl (lv_at hl 3 rfl) ?_
  obtain ⟨r1_, σ1, hσ1, hf⟩ := fcall_some hf
  refine fl_i hS (fl_runV (As := [.int x2, .int x3]) (rest := []) C hP rfl (Nat.le_of_ble_eq_true rfl) rfl (m_X8_waterAt C.2.2.2.2.2.2.2.2 l  hσ1) (fgV tw_1134 tw_1136 tw_47 tw_75 tw_1137) hd_X8_waterAt ⟨rfl, rfl, Nat.le_of_ble_eq_true rfl, Nat.le_of_ble_eq_true rfl⟩ rfl hl.1 rfl (Nat.le_of_ble_eq_true rfl) (kd kX8_isDeep_0 3 rfl)) (fun H locs hP hS => ?_)
  refine lv_aload_n C.1 C.2.1 (kd kX8_isDeep_0 4 rfl) rfl (lv_at hl 0 rfl) ?_
  refine lv_iload_n C.1 C.2.1 (kd kX8_isDeep_0 5 rfl) rfl (lv_at hl 1 rfl) ?_
  refine lv_iconst (v := (0 : Int32)) C.1 C.2.1 (kd kX8_isDeep_0 6 rfl) (by decide) ?_
  obtain ⟨r2_, σ2, hσ2, hf⟩ := fcall_some hf
  refine fl_i hS (fl_runV (As := [.int x1, .int (0 : Int32)]) (rest := [.int r1_]) C hP rfl (Nat.le_of_ble_eq_true rfl) rfl (m_X8_shipOf C.2.2.2.2.2.2.2.2 l  hσ2) (fgV tw_1102 tw_1104 tw_39 tw_75 tw_1105) hd_X8_shipOf ⟨rfl, rfl, Nat.le_of_ble_eq_true rfl, Nat.le_of_ble_eq_true rfl⟩ rfl hl.1 rfl (Nat.le_of_ble_eq_true rfl) (kd kX8_isDeep_0 7 rfl)) (fun H locs hP hS => ?_)
  refine lv_aload_n C.1 C.2.1 (kd kX8_isDeep_0 8 rfl) rfl (lv_at hl 0 rfl) ?_
  refine fl_get (j := 0) (v := .ref (Γ.1 165)) C hP rfl (Nat.le_of_ble_eq_true rfl) rfl inX8 (Nat.le_of_ble_eq_true rfl) tw_862 rfl (kd kX8_isDeep_0 9 rfl) ?_
  refine lv_bipush (v := (97 : Int32)) C.1 C.2.1 (kd kX8_isDeep_0 10 rfl) (by decide) ?_
  obtain ⟨hq, hf⟩ := fb_some hf
  refine fl_iald C hP rfl hq (kd kX8_isDeep_0 11 rfl) ?_
  refine lv_iadd C.1 C.2.1 (kd kX8_isDeep_0 12 rfl) ?_
  refine lv_icmp_lt (tgt := 27) C.1 C.2.1 (kd kX8_isDeep_0 13 rfl) (by decide) (fun q => ?_) (fun q => ?_)
  · have hf := fif_pos q hf
    refine lv_iconst (v := (0 : Int32)) C.1 C.2.1 (kd kX8_isDeep_0 16 rfl) (by decide) ?_
    exact fl_zret C hP hS rfl hf (kd kX8_isDeep_0 17 rfl)
  have hf := fif_neg q hf
  refine lv_iconst (v := (1 : Int32)) C.1 C.2.1 (kd kX8_isDeep_0 14 rfl) (by decide) ?_
  refine lv_goto (tgt := 28) C.1 C.2.1 (kd kX8_isDeep_0 15 rfl) (by decide) ?_
  exact fl_zret C hP hS rfl hf (kd kX8_isDeep_0 17 rfl)
def f_X8_isCalm (x1 : Int32) (x2 : Int32) (σ : fS) : Option (Int32 × fS) := fb ((49 : Int32) + (x2 / (60 : Int32))) 277 (fcall (f_X8_shipOf x1 (3 : Int32) σ) (fun r1_ σ1 => (if r1_ < (σ 165 ((49 : Int32) + (x2 / (60 : Int32))).toNatClampNeg) then some ((0 : Int32), σ1) else some ((1 : Int32), σ1))))
set_option maxRecDepth 100000 in
set_option maxHeartbeats 4000000 in
theorem m_X8_isCalm {Γ : fGm} (hI : fI Γ) (l : Launch) {x1 : Int32} {x2 : Int32} {σ : fS} {r : Int32} {σ' : fS} (hf : f_X8_isCalm x1 x2 σ = some (r, σ')) : Met l yX8_isCalm (.code yX8_isCalm cX8_isCalm 3 (some .boolean) :: lw_g) ({ frames := 1, cells := 0, slots := 0, locals := 22 } : Room) (fPre Γ [.ref (Γ.1 164), .int x1, .int x2] σ) (fQi Γ r σ') 0 0 (fAd Γ) := by
  refine fl_enter (own := RX8) hI (by decide +kernel) rfl (Nat.le_of_ble_eq_true rfl) ?_
  intro p e s m args below meth c ls C hl hP hS
  have hl : lv_has ls 3 [(0, .ref (Γ.1 164)), (1, .int x1), (2, .int x2)] := hl
  obtain ⟨H, hH⟩ : ∃ H, H = s.heap := ⟨_, rfl⟩
  obtain ⟨locs, hL⟩ : ∃ L : List Loc, L = [] := ⟨_, rfl⟩
  have hP : fH Γ σ H := by rw [hH]; exact hP
  have hS : va_S (fAd Γ) s.heap H locs := by rw [hH, hL]; exact hS
  suffices hw : W p l e ({ frames := 1, cells := 0, slots := 0, locals := 22 } : Room) s m args below meth c H locs 0 0 (MQ below (fQi Γ r σ') args s 0 0 (fAd Γ)) (F0 m 0 ls []) by rw [hH, hL] at hw; exact hw
  unfold f_X8_isCalm at hf
  refine lv_aload_n C.1 C.2.1 (kd kX8_isCalm_0 0 rfl) rfl (lv_at hl 0 rfl) ?_
  refine fl_get (j := 0) (v := .ref (Γ.1 165)) C hP rfl (Nat.le_of_ble_eq_true rfl) rfl inX8 (Nat.le_of_ble_eq_true rfl) tw_862 rfl (kd kX8_isCalm_0 1 rfl) ?_
  refine lv_bipush (v := (49 : Int32)) C.1 C.2.1 (kd kX8_isCalm_0 2 rfl) (by decide) ?_
  refine lv_iload_n C.1 C.2.1 (kd kX8_isCalm_0 3 rfl) rfl (lv_at hl 2 rfl) ?_
  refine lv_bipush (v := (60 : Int32)) C.1 C.2.1 (kd kX8_isCalm_0 4 rfl) (by decide) ?_
  refine lv_idiv C.1 C.2.1 (kd kX8_isCalm_0 5 rfl) (by decide) ?_
  refine lv_iadd C.1 C.2.1 (kd kX8_isCalm_0 6 rfl) ?_
  obtain ⟨hq, hf⟩ := fb_some hf
  refine fl_iald C hP rfl hq (kd kX8_isCalm_0 7 rfl) ?_
  refine lv_aload_n C.1 C.2.1 (kd kX8_isCalm_0 8 rfl) rfl (lv_at hl 0 rfl) ?_
  refine lv_iload_n C.1 C.2.1 (kd kX8_isCalm_0 9 rfl) rfl (lv_at hl 1 rfl) ?_
  refine lv_iconst (v := (3 : Int32)) C.1 C.2.1 (kd kX8_isCalm_0 10 rfl) (by decide) ?_
  obtain ⟨r1_, σ1, hσ1, hf⟩ := fcall_some hf
  refine fl_i hS (fl_runV (As := [.int x1, .int (3 : Int32)]) (rest := [.int (σ 165 ((49 : Int32) + (x2 / (60 : Int32))).toNatClampNeg)]) C hP rfl (Nat.le_of_ble_eq_true rfl) rfl (m_X8_shipOf C.2.2.2.2.2.2.2.2 l  hσ1) (fgV tw_1102 tw_1104 tw_39 tw_75 tw_1105) hd_X8_shipOf ⟨rfl, rfl, Nat.le_of_ble_eq_true rfl, Nat.le_of_ble_eq_true rfl⟩ rfl hl.1 rfl (Nat.le_of_ble_eq_true rfl) (kd kX8_isCalm_0 11 rfl)) (fun H locs hP hS => ?_)
  refine lv_icmp_gt (tgt := 25) C.1 C.2.1 (kd kX8_isCalm_0 12 rfl) (by decide) (fun q => ?_) (fun q => ?_)
  · have hf := fif_pos q hf
    refine lv_iconst (v := (0 : Int32)) C.1 C.2.1 (kd kX8_isCalm_0 15 rfl) (by decide) ?_
    exact fl_zret C hP hS rfl hf (kd kX8_isCalm_0 16 rfl)
  have hf := fif_neg q hf
  refine lv_iconst (v := (1 : Int32)) C.1 C.2.1 (kd kX8_isCalm_0 13 rfl) (by decide) ?_
  refine lv_goto (tgt := 26) C.1 C.2.1 (kd kX8_isCalm_0 14 rfl) (by decide) ?_
  exact fl_zret C hP hS rfl hf (kd kX8_isCalm_0 16 rfl)
def f_X8_sorts_b69 (K2 : Int32 → fS → Option (fS)) (K17 : Int32 → Int32 → Int32 → fS → Option (fS)) (v1 : Int32) (v3 : Int32) (s0 : Int32) (s1 : Int32) (σ : fS) : Option (fS) := K17 (v1) ((s1 + s0)) ((v3 + (1 : Int32))) σ
set_option maxRecDepth 100000 in
set_option maxHeartbeats 4000000 in
theorem w_X8_sorts_b69 {σ' : fS} {K2 : Int32 → fS → Option (fS)} {K17 : Int32 → Int32 → Int32 → fS → Option (fS)}  (C : fC Γ p s m args meth c cX8_sorts none RX8 4) (hK2 : ∀ (v1 : Int32) (σ : fS) (H : Heap) (locs : List Loc) (ls : Array Slot), K2 v1 σ = some σ' → fH Γ σ H → va_S (fAd Γ) s.heap H locs → lv_has ls 4 [(0, .ref (Γ.1 164)), (1, .int v1)] → W p l e ({ frames := 1, cells := 0, slots := 0, locals := 22 } : Room) s m args below meth c H locs 0 0 (MQ below (fQv Γ σ') args s 0 0 (fAd Γ)) (F0 m 2 ls [])) (hK17 : ∀ (v1 : Int32) (v2 : Int32) (v3 : Int32) (σ : fS) (H : Heap) (locs : List Loc) (ls : Array Slot), K17 v1 v2 v3 σ = some σ' → fH Γ σ H → va_S (fAd Γ) s.heap H locs → lv_has ls 4 [(0, .ref (Γ.1 164)), (1, .int v1), (2, .int v2), (3, .int v3)] → W p l e ({ frames := 1, cells := 0, slots := 0, locals := 22 } : Room) s m args below meth c H locs 0 0 (MQ below (fQv Γ σ') args s 0 0 (fAd Γ)) (F0 m 17 ls [])) : ∀ (v1 : Int32) (v3 : Int32) (s0 : Int32) (s1 : Int32) (σ : fS) (H : Heap) (locs : List Loc) (ls : Array Slot), f_X8_sorts_b69 K2 K17 v1 v3 s0 s1 σ = some σ' → fH Γ σ H → va_S (fAd Γ) s.heap H locs → lv_has ls 4 [(0, .ref (Γ.1 164)), (1, .int v1), (3, .int v3)] → W p l e ({ frames := 1, cells := 0, slots := 0, locals := 22 } : Room) s m args below meth c H locs 0 0 (MQ below (fQv Γ σ') args s 0 0 (fAd Γ)) (F0 m 69 ls [.int s0, .int s1]) := by
  intro v1 v3 s0 s1 σ H locs ls hf hP hS hl
  unfold f_X8_sorts_b69 at hf
  refine lv_iadd C.1 C.2.1 (kd kX8_sorts_0 43 rfl) ?_
  refine lv_istore_n (lv' := [(2, .int (s1 + s0)), (0, .ref (Γ.1 164)), (1, .int v1), (3, .int v3)]) C.1 C.2.1 (kd kX8_sorts_0 44 rfl) rfl hl (Nat.le_of_ble_eq_true rfl) rfl (fun ls hl => ?_)
  refine lv_iinc (v := (v3 + (1 : Int32))) (lv' := [(3, .int (v3 + (1 : Int32))), (2, .int (s1 + s0)), (0, .ref (Γ.1 164)), (1, .int v1)]) C.1 C.2.1 (kd kX8_sorts_0 45 rfl) hl (k := 3) rfl rfl (Nat.le_of_ble_eq_true rfl) rfl (fun ls hl => ?_)
  refine lv_goto (tgt := 17) C.1 C.2.1 (kd kX8_sorts_0 46 rfl) (by decide) ?_
  exact hK17 (v1) ((s1 + s0)) ((v3 + (1 : Int32))) σ H locs ls hf hP hS (lv_sub hl [2, 3, 1, 0] rfl)
def f_X8_sorts_b64 (K2 : Int32 → fS → Option (fS)) (K17 : Int32 → Int32 → Int32 → fS → Option (fS)) (v1 : Int32) (v3 : Int32) (s0 : Int32) (σ : fS) : Option (fS) := f_X8_sorts_b69 K2 K17 (v1) (v3) ((1 : Int32)) (s0) σ
set_option maxRecDepth 100000 in
set_option maxHeartbeats 4000000 in
theorem w_X8_sorts_b64 {σ' : fS} {K2 : Int32 → fS → Option (fS)} {K17 : Int32 → Int32 → Int32 → fS → Option (fS)}  (C : fC Γ p s m args meth c cX8_sorts none RX8 4) (hK2 : ∀ (v1 : Int32) (σ : fS) (H : Heap) (locs : List Loc) (ls : Array Slot), K2 v1 σ = some σ' → fH Γ σ H → va_S (fAd Γ) s.heap H locs → lv_has ls 4 [(0, .ref (Γ.1 164)), (1, .int v1)] → W p l e ({ frames := 1, cells := 0, slots := 0, locals := 22 } : Room) s m args below meth c H locs 0 0 (MQ below (fQv Γ σ') args s 0 0 (fAd Γ)) (F0 m 2 ls [])) (hK17 : ∀ (v1 : Int32) (v2 : Int32) (v3 : Int32) (σ : fS) (H : Heap) (locs : List Loc) (ls : Array Slot), K17 v1 v2 v3 σ = some σ' → fH Γ σ H → va_S (fAd Γ) s.heap H locs → lv_has ls 4 [(0, .ref (Γ.1 164)), (1, .int v1), (2, .int v2), (3, .int v3)] → W p l e ({ frames := 1, cells := 0, slots := 0, locals := 22 } : Room) s m args below meth c H locs 0 0 (MQ below (fQv Γ σ') args s 0 0 (fAd Γ)) (F0 m 17 ls [])) : ∀ (v1 : Int32) (v3 : Int32) (s0 : Int32) (σ : fS) (H : Heap) (locs : List Loc) (ls : Array Slot), f_X8_sorts_b64 K2 K17 v1 v3 s0 σ = some σ' → fH Γ σ H → va_S (fAd Γ) s.heap H locs → lv_has ls 4 [(0, .ref (Γ.1 164)), (1, .int v1), (3, .int v3)] → W p l e ({ frames := 1, cells := 0, slots := 0, locals := 22 } : Room) s m args below meth c H locs 0 0 (MQ below (fQv Γ σ') args s 0 0 (fAd Γ)) (F0 m 64 ls [.int s0]) := by
  intro v1 v3 s0 σ H locs ls hf hP hS hl
  unfold f_X8_sorts_b64 at hf
  refine lv_iconst (v := (1 : Int32)) C.1 C.2.1 (kd kX8_sorts_0 40 rfl) (by decide) ?_
  refine lv_goto (tgt := 69) C.1 C.2.1 (kd kX8_sorts_0 41 rfl) (by decide) ?_
  exact w_X8_sorts_b69 C hK2 hK17 (v1) (v3) ((1 : Int32)) (s0) σ H locs ls hf hP hS (lv_sub hl [0, 1, 2] rfl)
def f_X8_sorts_b68 (K2 : Int32 → fS → Option (fS)) (K17 : Int32 → Int32 → Int32 → fS → Option (fS)) (v1 : Int32) (v3 : Int32) (s0 : Int32) (σ : fS) : Option (fS) := f_X8_sorts_b69 K2 K17 (v1) (v3) ((0 : Int32)) (s0) σ
set_option maxRecDepth 100000 in
set_option maxHeartbeats 4000000 in
theorem w_X8_sorts_b68 {σ' : fS} {K2 : Int32 → fS → Option (fS)} {K17 : Int32 → Int32 → Int32 → fS → Option (fS)}  (C : fC Γ p s m args meth c cX8_sorts none RX8 4) (hK2 : ∀ (v1 : Int32) (σ : fS) (H : Heap) (locs : List Loc) (ls : Array Slot), K2 v1 σ = some σ' → fH Γ σ H → va_S (fAd Γ) s.heap H locs → lv_has ls 4 [(0, .ref (Γ.1 164)), (1, .int v1)] → W p l e ({ frames := 1, cells := 0, slots := 0, locals := 22 } : Room) s m args below meth c H locs 0 0 (MQ below (fQv Γ σ') args s 0 0 (fAd Γ)) (F0 m 2 ls [])) (hK17 : ∀ (v1 : Int32) (v2 : Int32) (v3 : Int32) (σ : fS) (H : Heap) (locs : List Loc) (ls : Array Slot), K17 v1 v2 v3 σ = some σ' → fH Γ σ H → va_S (fAd Γ) s.heap H locs → lv_has ls 4 [(0, .ref (Γ.1 164)), (1, .int v1), (2, .int v2), (3, .int v3)] → W p l e ({ frames := 1, cells := 0, slots := 0, locals := 22 } : Room) s m args below meth c H locs 0 0 (MQ below (fQv Γ σ') args s 0 0 (fAd Γ)) (F0 m 17 ls [])) : ∀ (v1 : Int32) (v3 : Int32) (s0 : Int32) (σ : fS) (H : Heap) (locs : List Loc) (ls : Array Slot), f_X8_sorts_b68 K2 K17 v1 v3 s0 σ = some σ' → fH Γ σ H → va_S (fAd Γ) s.heap H locs → lv_has ls 4 [(0, .ref (Γ.1 164)), (1, .int v1), (3, .int v3)] → W p l e ({ frames := 1, cells := 0, slots := 0, locals := 22 } : Room) s m args below meth c H locs 0 0 (MQ below (fQv Γ σ') args s 0 0 (fAd Γ)) (F0 m 68 ls [.int s0]) := by
  intro v1 v3 s0 σ H locs ls hf hP hS hl
  unfold f_X8_sorts_b68 at hf
  refine lv_iconst (v := (0 : Int32)) C.1 C.2.1 (kd kX8_sorts_0 42 rfl) (by decide) ?_
  exact w_X8_sorts_b69 C hK2 hK17 (v1) (v3) ((0 : Int32)) (s0) σ H locs ls hf hP hS (lv_sub hl [0, 1, 2] rfl)
def f_X8_sorts_b17 (K2 : Int32 → fS → Option (fS)) : Nat → Int32 → Int32 → Int32 → fS → Option (fS)
  | 0, _, _, _, _ => none
  | n_ + 1, v1, v2, v3, σ => fb (122 : Int32) 277 ((if (σ 165 (122 : Int32).toNatClampNeg) ≤ v3 then fb v1 12 (fL (fu σ 172 v1.toNatClampNeg v2) (fun σ1 => fb v2 12 (fL (fu σ1 171 v2.toNatClampNeg v1) (fun σ2 => K2 ((v1 + (1 : Int32))) σ2)))) else fcall (f_X8_of v3 (3 : Int32) σ) (fun r3_ σ3 => fcall (f_X8_of v1 (3 : Int32) σ3) (fun r4_ σ4 => (if r3_ < r4_ then f_X8_sorts_b64 K2 (fun v1 v2 v3 σ => f_X8_sorts_b17 K2 n_ v1 v2 v3 σ) (v1) (v3) (v2) σ4 else fcall (f_X8_of v3 (3 : Int32) σ4) (fun r5_ σ5 => fcall (f_X8_of v1 (3 : Int32) σ5) (fun r6_ σ6 => (if r5_ = r6_ then (if v1 ≤ v3 then f_X8_sorts_b68 K2 (fun v1 v2 v3 σ => f_X8_sorts_b17 K2 n_ v1 v2 v3 σ) (v1) (v3) (v2) σ6 else f_X8_sorts_b64 K2 (fun v1 v2 v3 σ => f_X8_sorts_b17 K2 n_ v1 v2 v3 σ) (v1) (v3) (v2) σ6) else f_X8_sorts_b68 K2 (fun v1 v2 v3 σ => f_X8_sorts_b17 K2 n_ v1 v2 v3 σ) (v1) (v3) (v2) σ6))))))))
set_option maxRecDepth 100000 in
set_option maxHeartbeats 4000000 in
theorem w_X8_sorts_b17 {σ' : fS} {K2 : Int32 → fS → Option (fS)}  (C : fC Γ p s m args meth c cX8_sorts none RX8 4) (hK2 : ∀ (v1 : Int32) (σ : fS) (H : Heap) (locs : List Loc) (ls : Array Slot), K2 v1 σ = some σ' → fH Γ σ H → va_S (fAd Γ) s.heap H locs → lv_has ls 4 [(0, .ref (Γ.1 164)), (1, .int v1)] → W p l e ({ frames := 1, cells := 0, slots := 0, locals := 22 } : Room) s m args below meth c H locs 0 0 (MQ below (fQv Γ σ') args s 0 0 (fAd Γ)) (F0 m 2 ls [])) : ∀ (n_ : Nat) (v1 : Int32) (v2 : Int32) (v3 : Int32) (σ : fS) (H : Heap) (locs : List Loc) (ls : Array Slot), f_X8_sorts_b17 K2 n_ v1 v2 v3 σ = some σ' → fH Γ σ H → va_S (fAd Γ) s.heap H locs → lv_has ls 4 [(0, .ref (Γ.1 164)), (1, .int v1), (2, .int v2), (3, .int v3)] → W p l e ({ frames := 1, cells := 0, slots := 0, locals := 22 } : Room) s m args below meth c H locs 0 0 (MQ below (fQv Γ σ') args s 0 0 (fAd Γ)) (F0 m 17 ls []) := by
  intro n_
  induction n_ with
  | zero =>
    intro v1 v2 v3 σ H locs ls hf
    cases hf
  | succ n_ ih =>
    intro v1 v2 v3 σ H locs ls hf hP hS hl
    have hf : fb (122 : Int32) 277 ((if (σ 165 (122 : Int32).toNatClampNeg) ≤ v3 then fb v1 12 (fL (fu σ 172 v1.toNatClampNeg v2) (fun σ1 => fb v2 12 (fL (fu σ1 171 v2.toNatClampNeg v1) (fun σ2 => K2 ((v1 + (1 : Int32))) σ2)))) else fcall (f_X8_of v3 (3 : Int32) σ) (fun r3_ σ3 => fcall (f_X8_of v1 (3 : Int32) σ3) (fun r4_ σ4 => (if r3_ < r4_ then f_X8_sorts_b64 K2 (fun v1 v2 v3 σ => f_X8_sorts_b17 K2 n_ v1 v2 v3 σ) (v1) (v3) (v2) σ4 else fcall (f_X8_of v3 (3 : Int32) σ4) (fun r5_ σ5 => fcall (f_X8_of v1 (3 : Int32) σ5) (fun r6_ σ6 => (if r5_ = r6_ then (if v1 ≤ v3 then f_X8_sorts_b68 K2 (fun v1 v2 v3 σ => f_X8_sorts_b17 K2 n_ v1 v2 v3 σ) (v1) (v3) (v2) σ6 else f_X8_sorts_b64 K2 (fun v1 v2 v3 σ => f_X8_sorts_b17 K2 n_ v1 v2 v3 σ) (v1) (v3) (v2) σ6) else f_X8_sorts_b68 K2 (fun v1 v2 v3 σ => f_X8_sorts_b17 K2 n_ v1 v2 v3 σ) (v1) (v3) (v2) σ6)))))))) = some σ' := hf
    have hK17 := ih
    refine lv_iload_n C.1 C.2.1 (kd kX8_sorts_0 12 rfl) rfl (lv_at hl 3 rfl) ?_
    refine lv_aload_n C.1 C.2.1 (kd kX8_sorts_0 13 rfl) rfl (lv_at hl 0 rfl) ?_
    refine fl_get (j := 0) (v := .ref (Γ.1 165)) C hP rfl (Nat.le_of_ble_eq_true rfl) rfl inX8 (Nat.le_of_ble_eq_true rfl) tw_862 rfl (kd kX8_sorts_0 14 rfl) ?_
    refine lv_bipush (v := (122 : Int32)) C.1 C.2.1 (kd kX8_sorts_0 15 rfl) (by decide) ?_
    obtain ⟨hq, hf⟩ := fb_some hf
    refine fl_iald C hP rfl hq (kd kX8_sorts_0 16 rfl) ?_
    refine lv_icmp_ge (tgt := 77) C.1 C.2.1 (kd kX8_sorts_0 17 rfl) (by decide) (fun q => ?_) (fun q => ?_)
    · have hf := fif_pos q hf
      refine lv_aload_n C.1 C.2.1 (kd kX8_sorts_0 47 rfl) rfl (lv_at hl 0 rfl) ?_
      refine fl_get (j := 13) (v := .ref (Γ.1 172)) C hP rfl (Nat.le_of_ble_eq_true rfl) rfl inX8 (Nat.le_of_ble_eq_true rfl) tw_875 rfl (kd kX8_sorts_0 48 rfl) ?_
      refine lv_iload_n C.1 C.2.1 (kd kX8_sorts_0 49 rfl) rfl (lv_at hl 1 rfl) ?_
      refine lv_iload_n C.1 C.2.1 (kd kX8_sorts_0 50 rfl) rfl (lv_at hl 2 rfl) ?_
      obtain ⟨hq, hf⟩ := fb_some hf
      obtain ⟨σ1, eσ1, hf⟩ := fL_some hf
      refine fl_iast C hP hS rfl hq (kd kX8_sorts_0 51 rfl) (fun H locs hP hS => ?_)
      have hP : fH Γ σ1 H := by rw [eσ1]; exact hP
      refine lv_aload_n C.1 C.2.1 (kd kX8_sorts_0 52 rfl) rfl (lv_at hl 0 rfl) ?_
      refine fl_get (j := 12) (v := .ref (Γ.1 171)) C hP rfl (Nat.le_of_ble_eq_true rfl) rfl inX8 (Nat.le_of_ble_eq_true rfl) tw_874 rfl (kd kX8_sorts_0 53 rfl) ?_
      refine lv_iload_n C.1 C.2.1 (kd kX8_sorts_0 54 rfl) rfl (lv_at hl 2 rfl) ?_
      refine lv_iload_n C.1 C.2.1 (kd kX8_sorts_0 55 rfl) rfl (lv_at hl 1 rfl) ?_
      obtain ⟨hq, hf⟩ := fb_some hf
      obtain ⟨σ2, eσ2, hf⟩ := fL_some hf
      refine fl_iast C hP hS rfl hq (kd kX8_sorts_0 56 rfl) (fun H locs hP hS => ?_)
      have hP : fH Γ σ2 H := by rw [eσ2]; exact hP
      refine lv_iinc (v := (v1 + (1 : Int32))) (lv' := [(1, .int (v1 + (1 : Int32))), (0, .ref (Γ.1 164)), (2, .int v2), (3, .int v3)]) C.1 C.2.1 (kd kX8_sorts_0 57 rfl) hl (k := 1) rfl rfl (Nat.le_of_ble_eq_true rfl) rfl (fun ls hl => ?_)
      refine lv_goto (tgt := 2) C.1 C.2.1 (kd kX8_sorts_0 58 rfl) (by decide) ?_
      exact hK2 ((v1 + (1 : Int32))) σ2 H locs ls hf hP hS (lv_sub hl [1, 0] rfl)
    have hf := fif_neg q hf
    refine lv_iload_n C.1 C.2.1 (kd kX8_sorts_0 18 rfl) rfl (lv_at hl 2 rfl) ?_
    refine lv_aload_n C.1 C.2.1 (kd kX8_sorts_0 19 rfl) rfl (lv_at hl 0 rfl) ?_
    refine lv_iload_n C.1 C.2.1 (kd kX8_sorts_0 20 rfl) rfl (lv_at hl 3 rfl) ?_
    refine lv_iconst (v := (3 : Int32)) C.1 C.2.1 (kd kX8_sorts_0 21 rfl) (by decide) ?_
    obtain ⟨r3_, σ3, hσ3, hf⟩ := fcall_some hf
    refine fl_i hS (fl_runV (As := [.int v3, .int (3 : Int32)]) (rest := [.int v2]) C hP rfl (Nat.le_of_ble_eq_true rfl) rfl (m_X8_of C.2.2.2.2.2.2.2.2 l  hσ3) (fgV tw_1118 tw_1120 tw_43 tw_75 tw_1121) hd_X8_of ⟨rfl, rfl, Nat.le_of_ble_eq_true rfl, Nat.le_of_ble_eq_true rfl⟩ rfl hl.1 rfl (Nat.le_of_ble_eq_true rfl) (kd kX8_sorts_0 22 rfl)) (fun H locs hP hS => ?_)
    refine lv_aload_n C.1 C.2.1 (kd kX8_sorts_0 23 rfl) rfl (lv_at hl 0 rfl) ?_
    refine lv_iload_n C.1 C.2.1 (kd kX8_sorts_0 24 rfl) rfl (lv_at hl 1 rfl) ?_
    refine lv_iconst (v := (3 : Int32)) C.1 C.2.1 (kd kX8_sorts_0 25 rfl) (by decide) ?_
    obtain ⟨r4_, σ4, hσ4, hf⟩ := fcall_some hf
    refine fl_i hS (fl_runV (As := [.int v1, .int (3 : Int32)]) (rest := [.int r3_, .int v2]) C hP rfl (Nat.le_of_ble_eq_true rfl) rfl (m_X8_of C.2.2.2.2.2.2.2.2 l  hσ4) (fgV tw_1118 tw_1120 tw_43 tw_75 tw_1121) hd_X8_of ⟨rfl, rfl, Nat.le_of_ble_eq_true rfl, Nat.le_of_ble_eq_true rfl⟩ rfl hl.1 rfl (Nat.le_of_ble_eq_true rfl) (kd kX8_sorts_0 26 rfl)) (fun H locs hP hS => ?_)
    refine lv_icmp_lt (tgt := 64) C.1 C.2.1 (kd kX8_sorts_0 27 rfl) (by decide) (fun q => ?_) (fun q => ?_)
    · have hf := fif_pos q hf
      exact w_X8_sorts_b64 C hK2 hK17 (v1) (v3) (v2) σ4 H locs ls hf hP hS (lv_sub hl [0, 1, 3] rfl)
    have hf := fif_neg q hf
    refine lv_aload_n C.1 C.2.1 (kd kX8_sorts_0 28 rfl) rfl (lv_at hl 0 rfl) ?_
    refine lv_iload_n C.1 C.2.1 (kd kX8_sorts_0 29 rfl) rfl (lv_at hl 3 rfl) ?_
    refine lv_iconst (v := (3 : Int32)) C.1 C.2.1 (kd kX8_sorts_0 30 rfl) (by decide) ?_
    obtain ⟨r5_, σ5, hσ5, hf⟩ := fcall_some hf
    refine fl_i hS (fl_runV (As := [.int v3, .int (3 : Int32)]) (rest := [.int v2]) C hP rfl (Nat.le_of_ble_eq_true rfl) rfl (m_X8_of C.2.2.2.2.2.2.2.2 l  hσ5) (fgV tw_1118 tw_1120 tw_43 tw_75 tw_1121) hd_X8_of ⟨rfl, rfl, Nat.le_of_ble_eq_true rfl, Nat.le_of_ble_eq_true rfl⟩ rfl hl.1 rfl (Nat.le_of_ble_eq_true rfl) (kd kX8_sorts_0 31 rfl)) (fun H locs hP hS => ?_)
    refine lv_aload_n C.1 C.2.1 (kd kX8_sorts_0 32 rfl) rfl (lv_at hl 0 rfl) ?_
    refine lv_iload_n C.1 C.2.1 (kd kX8_sorts_0 33 rfl) rfl (lv_at hl 1 rfl) ?_
    refine lv_iconst (v := (3 : Int32)) C.1 C.2.1 (kd kX8_sorts_0 34 rfl) (by decide) ?_
    obtain ⟨r6_, σ6, hσ6, hf⟩ := fcall_some hf
    refine fl_i hS (fl_runV (As := [.int v1, .int (3 : Int32)]) (rest := [.int r5_, .int v2]) C hP rfl (Nat.le_of_ble_eq_true rfl) rfl (m_X8_of C.2.2.2.2.2.2.2.2 l  hσ6) (fgV tw_1118 tw_1120 tw_43 tw_75 tw_1121) hd_X8_of ⟨rfl, rfl, Nat.le_of_ble_eq_true rfl, Nat.le_of_ble_eq_true rfl⟩ rfl hl.1 rfl (Nat.le_of_ble_eq_true rfl) (kd kX8_sorts_0 35 rfl)) (fun H locs hP hS => ?_)
    refine lv_icmp_ne (tgt := 68) C.1 C.2.1 (kd kX8_sorts_0 36 rfl) (by decide) (fun q => ?_) (fun q => ?_)
    · have hf := fif_neg q hf
      exact w_X8_sorts_b68 C hK2 hK17 (v1) (v3) (v2) σ6 H locs ls hf hP hS (lv_sub hl [0, 1, 3] rfl)
    have hf := fif_pos q hf
    refine lv_iload_n C.1 C.2.1 (kd kX8_sorts_0 37 rfl) rfl (lv_at hl 3 rfl) ?_
    refine lv_iload_n C.1 C.2.1 (kd kX8_sorts_0 38 rfl) rfl (lv_at hl 1 rfl) ?_
    refine lv_icmp_ge (tgt := 68) C.1 C.2.1 (kd kX8_sorts_0 39 rfl) (by decide) (fun q => ?_) (fun q => ?_)
    · have hf := fif_pos q hf
      exact w_X8_sorts_b68 C hK2 hK17 (v1) (v3) (v2) σ6 H locs ls hf hP hS (lv_sub hl [0, 1, 3] rfl)
    have hf := fif_neg q hf
    exact w_X8_sorts_b64 C hK2 hK17 (v1) (v3) (v2) σ6 H locs ls hf hP hS (lv_sub hl [0, 1, 3] rfl)
def f_X8_sorts_b2 : Nat → Int32 → fS → Option (fS)
  | 0, _, _ => none
  | n_ + 1, v1, σ => fb (122 : Int32) 277 ((if (σ 165 (122 : Int32).toNatClampNeg) ≤ v1 then some σ else f_X8_sorts_b17 (fun v1 σ => f_X8_sorts_b2 n_ v1 σ) fN (v1) ((0 : Int32)) ((0 : Int32)) σ))
set_option maxRecDepth 100000 in
set_option maxHeartbeats 4000000 in
theorem w_X8_sorts_b2 {σ' : fS}  (C : fC Γ p s m args meth c cX8_sorts none RX8 4) : ∀ (n_ : Nat) (v1 : Int32) (σ : fS) (H : Heap) (locs : List Loc) (ls : Array Slot), f_X8_sorts_b2 n_ v1 σ = some σ' → fH Γ σ H → va_S (fAd Γ) s.heap H locs → lv_has ls 4 [(0, .ref (Γ.1 164)), (1, .int v1)] → W p l e ({ frames := 1, cells := 0, slots := 0, locals := 22 } : Room) s m args below meth c H locs 0 0 (MQ below (fQv Γ σ') args s 0 0 (fAd Γ)) (F0 m 2 ls []) := by
  intro n_
  induction n_ with
  | zero =>
    intro v1 σ H locs ls hf
    cases hf
  | succ n_ ih =>
    intro v1 σ H locs ls hf hP hS hl
    have hf : fb (122 : Int32) 277 ((if (σ 165 (122 : Int32).toNatClampNeg) ≤ v1 then some σ else f_X8_sorts_b17 (fun v1 σ => f_X8_sorts_b2 n_ v1 σ) fN (v1) ((0 : Int32)) ((0 : Int32)) σ)) = some σ' := hf
    have hK2 := ih
    refine lv_iload_n C.1 C.2.1 (kd kX8_sorts_0 2 rfl) rfl (lv_at hl 1 rfl) ?_
    refine lv_aload_n C.1 C.2.1 (kd kX8_sorts_0 3 rfl) rfl (lv_at hl 0 rfl) ?_
    refine fl_get (j := 0) (v := .ref (Γ.1 165)) C hP rfl (Nat.le_of_ble_eq_true rfl) rfl inX8 (Nat.le_of_ble_eq_true rfl) tw_862 rfl (kd kX8_sorts_0 4 rfl) ?_
    refine lv_bipush (v := (122 : Int32)) C.1 C.2.1 (kd kX8_sorts_0 5 rfl) (by decide) ?_
    obtain ⟨hq, hf⟩ := fb_some hf
    refine fl_iald C hP rfl hq (kd kX8_sorts_0 6 rfl) ?_
    refine lv_icmp_ge (tgt := 97) C.1 C.2.1 (kd kX8_sorts_0 7 rfl) (by decide) (fun q => ?_) (fun q => ?_)
    · have hf := fif_pos q hf
      exact fl_vret C hP hS hf (kd kX8_sorts_0 59 rfl)
    have hf := fif_neg q hf
    refine lv_iconst (v := (0 : Int32)) C.1 C.2.1 (kd kX8_sorts_0 8 rfl) (by decide) ?_
    refine lv_istore_n (lv' := [(2, .int (0 : Int32)), (0, .ref (Γ.1 164)), (1, .int v1)]) C.1 C.2.1 (kd kX8_sorts_0 9 rfl) rfl hl (Nat.le_of_ble_eq_true rfl) rfl (fun ls hl => ?_)
    refine lv_iconst (v := (0 : Int32)) C.1 C.2.1 (kd kX8_sorts_0 10 rfl) (by decide) ?_
    refine lv_istore_n (lv' := [(3, .int (0 : Int32)), (2, .int (0 : Int32)), (0, .ref (Γ.1 164)), (1, .int v1)]) C.1 C.2.1 (kd kX8_sorts_0 11 rfl) rfl hl (Nat.le_of_ble_eq_true rfl) rfl (fun ls hl => ?_)
    exact w_X8_sorts_b17 C hK2 fN (v1) ((0 : Int32)) ((0 : Int32)) σ H locs ls hf hP hS (lv_sub hl [2, 3, 1, 0] rfl)
def f_X8_sorts (σ : fS) : Option (fS) := f_X8_sorts_b2 fN ((0 : Int32)) σ
set_option maxRecDepth 100000 in
set_option maxHeartbeats 4000000 in
theorem m_X8_sorts {Γ : fGm} (hI : fI Γ) (l : Launch) {σ : fS} {σ' : fS} (hf : f_X8_sorts  σ = some σ') : Met l yX8_sorts (.code yX8_sorts cX8_sorts 4 none :: lw_g) ({ frames := 1, cells := 0, slots := 0, locals := 22 } : Room) (fPre Γ [.ref (Γ.1 164)] σ) (fQv Γ σ') 0 0 (fAd Γ) := by
  refine fl_enter (own := RX8) hI (by decide +kernel) rfl (Nat.le_of_ble_eq_true rfl) ?_
  intro p e s m args below meth c ls C hl hP hS
  have hl : lv_has ls 4 [(0, .ref (Γ.1 164))] := hl
  obtain ⟨H, hH⟩ : ∃ H, H = s.heap := ⟨_, rfl⟩
  obtain ⟨locs, hL⟩ : ∃ L : List Loc, L = [] := ⟨_, rfl⟩
  have hP : fH Γ σ H := by rw [hH]; exact hP
  have hS : va_S (fAd Γ) s.heap H locs := by rw [hH, hL]; exact hS
  suffices hw : W p l e ({ frames := 1, cells := 0, slots := 0, locals := 22 } : Room) s m args below meth c H locs 0 0 (MQ below (fQv Γ σ') args s 0 0 (fAd Γ)) (F0 m 0 ls []) by rw [hH, hL] at hw; exact hw
  unfold f_X8_sorts at hf
  refine lv_iconst (v := (0 : Int32)) C.1 C.2.1 (kd kX8_sorts_0 0 rfl) (by decide) ?_
  refine lv_istore_n (lv' := [(1, .int (0 : Int32)), (0, .ref (Γ.1 164))]) C.1 C.2.1 (kd kX8_sorts_0 1 rfl) rfl hl (Nat.le_of_ble_eq_true rfl) rfl (fun ls hl => ?_)
  exact w_X8_sorts_b2 C fN ((0 : Int32)) σ H locs ls hf hP hS (lv_sub hl [1, 0] rfl)
def f_X8_shallow_b76 (K7 : Int32 → Int32 → fS → Option (Int32 × fS)) (v1 : Int32) (v2 : Int32) (σ : fS) : Option (Int32 × fS) := K7 (v1) ((v2 + (1 : Int32))) σ
set_option maxRecDepth 100000 in
set_option maxHeartbeats 4000000 in
theorem w_X8_shallow_b76 {r : Int32} {σ' : fS} {K7 : Int32 → Int32 → fS → Option (Int32 × fS)}  (C : fC Γ p s m args meth c cX8_shallow (some .int) RX8 4) (hK7 : ∀ (v1 : Int32) (v2 : Int32) (σ : fS) (H : Heap) (locs : List Loc) (ls : Array Slot), K7 v1 v2 σ = some (r, σ') → fH Γ σ H → va_S (fAd Γ) s.heap H locs → lv_has ls 4 [(0, .ref (Γ.1 164)), (1, .int v1), (2, .int v2)] → W p l e ({ frames := 4, cells := 0, slots := 0, locals := 90 } : Room) s m args below meth c H locs 0 0 (MQ below (fQi Γ r σ') args s 0 0 (fAd Γ)) (F0 m 7 ls [])) : ∀ (v1 : Int32) (v2 : Int32) (σ : fS) (H : Heap) (locs : List Loc) (ls : Array Slot), f_X8_shallow_b76 K7 v1 v2 σ = some (r, σ') → fH Γ σ H → va_S (fAd Γ) s.heap H locs → lv_has ls 4 [(0, .ref (Γ.1 164)), (1, .int v1), (2, .int v2)] → W p l e ({ frames := 4, cells := 0, slots := 0, locals := 90 } : Room) s m args below meth c H locs 0 0 (MQ below (fQi Γ r σ') args s 0 0 (fAd Γ)) (F0 m 76 ls []) := by
  intro v1 v2 σ H locs ls hf hP hS hl
  unfold f_X8_shallow_b76 at hf
  refine lv_iinc (v := (v2 + (1 : Int32))) (lv' := [(2, .int (v2 + (1 : Int32))), (0, .ref (Γ.1 164)), (1, .int v1)]) C.1 C.2.1 (kd kX8_shallow_0 47 rfl) hl (k := 2) rfl rfl (Nat.le_of_ble_eq_true rfl) rfl (fun ls hl => ?_)
  refine lv_goto (tgt := 7) C.1 C.2.1 (kd kX8_shallow_0 48 rfl) (by decide) ?_
  exact hK7 (v1) ((v2 + (1 : Int32))) σ H locs ls hf hP hS (lv_sub hl [1, 2, 0] rfl)
def f_X8_shallow_b49 (K7 : Int32 → Int32 → fS → Option (Int32 × fS)) (v1 : Int32) (v2 : Int32) (s0 : Int32) (σ : fS) : Option (Int32 × fS) := (if s0 = 0 then f_X8_shallow_b76 K7 (v1) (v2) σ else fcall (f_X8_of v1 (0 : Int32) σ) (fun r1_ σ1 => fcall (f_X8_of v1 (1 : Int32) σ1) (fun r2_ σ2 => fcall (f_X8_isDeep r1_ r2_ v2 σ2) (fun r3_ σ3 => (if r3_ = 0 then some (v2, σ3) else f_X8_shallow_b76 K7 (v1) (v2) σ3)))))
set_option maxRecDepth 100000 in
set_option maxHeartbeats 4000000 in
theorem w_X8_shallow_b49 {r : Int32} {σ' : fS} {K7 : Int32 → Int32 → fS → Option (Int32 × fS)}  (C : fC Γ p s m args meth c cX8_shallow (some .int) RX8 4) (hK7 : ∀ (v1 : Int32) (v2 : Int32) (σ : fS) (H : Heap) (locs : List Loc) (ls : Array Slot), K7 v1 v2 σ = some (r, σ') → fH Γ σ H → va_S (fAd Γ) s.heap H locs → lv_has ls 4 [(0, .ref (Γ.1 164)), (1, .int v1), (2, .int v2)] → W p l e ({ frames := 4, cells := 0, slots := 0, locals := 90 } : Room) s m args below meth c H locs 0 0 (MQ below (fQi Γ r σ') args s 0 0 (fAd Γ)) (F0 m 7 ls [])) : ∀ (v1 : Int32) (v2 : Int32) (s0 : Int32) (σ : fS) (H : Heap) (locs : List Loc) (ls : Array Slot), f_X8_shallow_b49 K7 v1 v2 s0 σ = some (r, σ') → fH Γ σ H → va_S (fAd Γ) s.heap H locs → lv_has ls 4 [(0, .ref (Γ.1 164)), (1, .int v1), (2, .int v2)] → W p l e ({ frames := 4, cells := 0, slots := 0, locals := 90 } : Room) s m args below meth c H locs 0 0 (MQ below (fQi Γ r σ') args s 0 0 (fAd Γ)) (F0 m 49 ls [.int s0]) := by
  intro v1 v2 s0 σ H locs ls hf hP hS hl
  unfold f_X8_shallow_b49 at hf
  refine lv_istore_n (lv' := [(3, .int s0), (0, .ref (Γ.1 164)), (1, .int v1), (2, .int v2)]) C.1 C.2.1 (kd kX8_shallow_0 30 rfl) rfl hl (Nat.le_of_ble_eq_true rfl) rfl (fun ls hl => ?_)
  refine lv_iload_n C.1 C.2.1 (kd kX8_shallow_0 31 rfl) rfl (lv_at hl 0 rfl) ?_
  refine lv_if_eq (tgt := 76) C.1 C.2.1 (kd kX8_shallow_0 32 rfl) (by decide) (fun q => ?_) (fun q => ?_)
  · have hf := fif_pos q hf
    exact w_X8_shallow_b76 C hK7 (v1) (v2) σ H locs ls hf hP hS (lv_sub hl [1, 2, 3] rfl)
  have hf := fif_neg q hf
  refine lv_aload_n C.1 C.2.1 (kd kX8_shallow_0 33 rfl) rfl (lv_at hl 1 rfl) ?_
  refine lv_aload_n C.1 C.2.1 (kd kX8_shallow_0 34 rfl) rfl (lv_at hl 1 rfl) ?_
  refine lv_iload_n C.1 C.2.1 (kd kX8_shallow_0 35 rfl) rfl (lv_at hl 2 rfl) ?_
  refine lv_iconst (v := (0 : Int32)) C.1 C.2.1 (kd kX8_shallow_0 36 rfl) (by decide) ?_
  obtain ⟨r1_, σ1, hσ1, hf⟩ := fcall_some hf
  refine fl_i hS (fl_runV (As := [.int v1, .int (0 : Int32)]) (rest := [.ref (Γ.1 164)]) C hP rfl (Nat.le_of_ble_eq_true rfl) rfl (m_X8_of C.2.2.2.2.2.2.2.2 l  hσ1) (fgV tw_1118 tw_1120 tw_43 tw_75 tw_1121) hd_X8_of ⟨rfl, rfl, Nat.le_of_ble_eq_true rfl, Nat.le_of_ble_eq_true rfl⟩ rfl hl.1 rfl (Nat.le_of_ble_eq_true rfl) (kd kX8_shallow_0 37 rfl)) (fun H locs hP hS => ?_)
  refine lv_aload_n C.1 C.2.1 (kd kX8_shallow_0 38 rfl) rfl (lv_at hl 1 rfl) ?_
  refine lv_iload_n C.1 C.2.1 (kd kX8_shallow_0 39 rfl) rfl (lv_at hl 2 rfl) ?_
  refine lv_iconst (v := (1 : Int32)) C.1 C.2.1 (kd kX8_shallow_0 40 rfl) (by decide) ?_
  obtain ⟨r2_, σ2, hσ2, hf⟩ := fcall_some hf
  refine fl_i hS (fl_runV (As := [.int v1, .int (1 : Int32)]) (rest := [.int r1_, .ref (Γ.1 164)]) C hP rfl (Nat.le_of_ble_eq_true rfl) rfl (m_X8_of C.2.2.2.2.2.2.2.2 l  hσ2) (fgV tw_1118 tw_1120 tw_43 tw_75 tw_1121) hd_X8_of ⟨rfl, rfl, Nat.le_of_ble_eq_true rfl, Nat.le_of_ble_eq_true rfl⟩ rfl hl.1 rfl (Nat.le_of_ble_eq_true rfl) (kd kX8_shallow_0 41 rfl)) (fun H locs hP hS => ?_)
  refine lv_iload_n C.1 C.2.1 (kd kX8_shallow_0 42 rfl) rfl (lv_at hl 3 rfl) ?_
  obtain ⟨r3_, σ3, hσ3, hf⟩ := fcall_some hf
  refine fl_i hS (fl_runV (As := [.int r1_, .int r2_, .int v2]) (rest := []) C hP rfl (Nat.le_of_ble_eq_true rfl) rfl (m_X8_isDeep C.2.2.2.2.2.2.2.2 l  hσ3) (fgV tw_1130 tw_1132 tw_46 tw_75 tw_1133) hd_X8_isDeep ⟨rfl, rfl, Nat.le_of_ble_eq_true rfl, Nat.le_of_ble_eq_true rfl⟩ rfl hl.1 rfl (Nat.le_of_ble_eq_true rfl) (kd kX8_shallow_0 43 rfl)) (fun H locs hP hS => ?_)
  refine lv_if_ne (tgt := 76) C.1 C.2.1 (kd kX8_shallow_0 44 rfl) (by decide) (fun q => ?_) (fun q => ?_)
  · have hf := fif_neg q hf
    exact w_X8_shallow_b76 C hK7 (v1) (v2) σ3 H locs ls hf hP hS (lv_sub hl [1, 2, 3] rfl)
  have hf := fif_pos q hf
  refine lv_iload_n C.1 C.2.1 (kd kX8_shallow_0 45 rfl) rfl (lv_at hl 3 rfl) ?_
  exact fl_iret C hP hS hf (kd kX8_shallow_0 46 rfl)
def f_X8_shallow_b44 (K7 : Int32 → Int32 → fS → Option (Int32 × fS)) (v1 : Int32) (v2 : Int32) (σ : fS) : Option (Int32 × fS) := f_X8_shallow_b49 K7 (v1) (v2) ((1 : Int32)) σ
set_option maxRecDepth 100000 in
set_option maxHeartbeats 4000000 in
theorem w_X8_shallow_b44 {r : Int32} {σ' : fS} {K7 : Int32 → Int32 → fS → Option (Int32 × fS)}  (C : fC Γ p s m args meth c cX8_shallow (some .int) RX8 4) (hK7 : ∀ (v1 : Int32) (v2 : Int32) (σ : fS) (H : Heap) (locs : List Loc) (ls : Array Slot), K7 v1 v2 σ = some (r, σ') → fH Γ σ H → va_S (fAd Γ) s.heap H locs → lv_has ls 4 [(0, .ref (Γ.1 164)), (1, .int v1), (2, .int v2)] → W p l e ({ frames := 4, cells := 0, slots := 0, locals := 90 } : Room) s m args below meth c H locs 0 0 (MQ below (fQi Γ r σ') args s 0 0 (fAd Γ)) (F0 m 7 ls [])) : ∀ (v1 : Int32) (v2 : Int32) (σ : fS) (H : Heap) (locs : List Loc) (ls : Array Slot), f_X8_shallow_b44 K7 v1 v2 σ = some (r, σ') → fH Γ σ H → va_S (fAd Γ) s.heap H locs → lv_has ls 4 [(0, .ref (Γ.1 164)), (1, .int v1), (2, .int v2)] → W p l e ({ frames := 4, cells := 0, slots := 0, locals := 90 } : Room) s m args below meth c H locs 0 0 (MQ below (fQi Γ r σ') args s 0 0 (fAd Γ)) (F0 m 44 ls []) := by
  intro v1 v2 σ H locs ls hf hP hS hl
  unfold f_X8_shallow_b44 at hf
  refine lv_iconst (v := (1 : Int32)) C.1 C.2.1 (kd kX8_shallow_0 27 rfl) (by decide) ?_
  refine lv_goto (tgt := 49) C.1 C.2.1 (kd kX8_shallow_0 28 rfl) (by decide) ?_
  exact w_X8_shallow_b49 C hK7 (v1) (v2) ((1 : Int32)) σ H locs ls hf hP hS (lv_sub hl [0, 1, 2] rfl)
def f_X8_shallow_b7 : Nat → Int32 → Int32 → fS → Option (Int32 × fS)
  | 0, _, _, _ => none
  | n_ + 1, v1, v2, σ => fcall (f_X8_of v1 (3 : Int32) σ) (fun r1_ σ1 => (if r1_ < v2 then some ((-1 : Int32), σ1) else fcall (f_X8_of v1 (2 : Int32) σ1) (fun r2_ σ2 => (if v2 = r2_ then f_X8_shallow_b44 (fun v1 v2 σ => f_X8_shallow_b7 n_ v1 v2 σ) (v1) (v2) σ2 else fcall (f_X8_of v1 (3 : Int32) σ2) (fun r3_ σ3 => (if v2 = r3_ then f_X8_shallow_b44 (fun v1 v2 σ => f_X8_shallow_b7 n_ v1 v2 σ) (v1) (v2) σ3 else (if (v2 - v2 / (60 : Int32) * (60 : Int32)) = 0 then f_X8_shallow_b44 (fun v1 v2 σ => f_X8_shallow_b7 n_ v1 v2 σ) (v1) (v2) σ3 else f_X8_shallow_b49 (fun v1 v2 σ => f_X8_shallow_b7 n_ v1 v2 σ) (v1) (v2) ((0 : Int32)) σ3)))))))
set_option maxRecDepth 100000 in
set_option maxHeartbeats 4000000 in
theorem w_X8_shallow_b7 {r : Int32} {σ' : fS}  (C : fC Γ p s m args meth c cX8_shallow (some .int) RX8 4) : ∀ (n_ : Nat) (v1 : Int32) (v2 : Int32) (σ : fS) (H : Heap) (locs : List Loc) (ls : Array Slot), f_X8_shallow_b7 n_ v1 v2 σ = some (r, σ') → fH Γ σ H → va_S (fAd Γ) s.heap H locs → lv_has ls 4 [(0, .ref (Γ.1 164)), (1, .int v1), (2, .int v2)] → W p l e ({ frames := 4, cells := 0, slots := 0, locals := 90 } : Room) s m args below meth c H locs 0 0 (MQ below (fQi Γ r σ') args s 0 0 (fAd Γ)) (F0 m 7 ls []) := by
  intro n_
  induction n_ with
  | zero =>
    intro v1 v2 σ H locs ls hf
    cases hf
  | succ n_ ih =>
    intro v1 v2 σ H locs ls hf hP hS hl
    have hf : fcall (f_X8_of v1 (3 : Int32) σ) (fun r1_ σ1 => (if r1_ < v2 then some ((-1 : Int32), σ1) else fcall (f_X8_of v1 (2 : Int32) σ1) (fun r2_ σ2 => (if v2 = r2_ then f_X8_shallow_b44 (fun v1 v2 σ => f_X8_shallow_b7 n_ v1 v2 σ) (v1) (v2) σ2 else fcall (f_X8_of v1 (3 : Int32) σ2) (fun r3_ σ3 => (if v2 = r3_ then f_X8_shallow_b44 (fun v1 v2 σ => f_X8_shallow_b7 n_ v1 v2 σ) (v1) (v2) σ3 else (if (v2 - v2 / (60 : Int32) * (60 : Int32)) = 0 then f_X8_shallow_b44 (fun v1 v2 σ => f_X8_shallow_b7 n_ v1 v2 σ) (v1) (v2) σ3 else f_X8_shallow_b49 (fun v1 v2 σ => f_X8_shallow_b7 n_ v1 v2 σ) (v1) (v2) ((0 : Int32)) σ3))))))) = some (r, σ') := hf
    have hK7 := ih
    refine lv_iload_n C.1 C.2.1 (kd kX8_shallow_0 5 rfl) rfl (lv_at hl 2 rfl) ?_
    refine lv_aload_n C.1 C.2.1 (kd kX8_shallow_0 6 rfl) rfl (lv_at hl 0 rfl) ?_
    refine lv_iload_n C.1 C.2.1 (kd kX8_shallow_0 7 rfl) rfl (lv_at hl 1 rfl) ?_
    refine lv_iconst (v := (3 : Int32)) C.1 C.2.1 (kd kX8_shallow_0 8 rfl) (by decide) ?_
    obtain ⟨r1_, σ1, hσ1, hf⟩ := fcall_some hf
    refine fl_i hS (fl_runV (As := [.int v1, .int (3 : Int32)]) (rest := [.int v2]) C hP rfl (Nat.le_of_ble_eq_true rfl) rfl (m_X8_of C.2.2.2.2.2.2.2.2 l  hσ1) (fgV tw_1118 tw_1120 tw_43 tw_75 tw_1121) hd_X8_of ⟨rfl, rfl, Nat.le_of_ble_eq_true rfl, Nat.le_of_ble_eq_true rfl⟩ rfl hl.1 rfl (Nat.le_of_ble_eq_true rfl) (kd kX8_shallow_0 9 rfl)) (fun H locs hP hS => ?_)
    refine lv_icmp_gt (tgt := 82) C.1 C.2.1 (kd kX8_shallow_0 10 rfl) (by decide) (fun q => ?_) (fun q => ?_)
    · have hf := fif_pos q hf
      refine lv_iconst (v := (-1 : Int32)) C.1 C.2.1 (kd kX8_shallow_0 49 rfl) (by decide) ?_
      exact fl_iret C hP hS hf (kd kX8_shallow_0 50 rfl)
    have hf := fif_neg q hf
    refine lv_iload_n C.1 C.2.1 (kd kX8_shallow_0 11 rfl) rfl (lv_at hl 2 rfl) ?_
    refine lv_aload_n C.1 C.2.1 (kd kX8_shallow_0 12 rfl) rfl (lv_at hl 0 rfl) ?_
    refine lv_iload_n C.1 C.2.1 (kd kX8_shallow_0 13 rfl) rfl (lv_at hl 1 rfl) ?_
    refine lv_iconst (v := (2 : Int32)) C.1 C.2.1 (kd kX8_shallow_0 14 rfl) (by decide) ?_
    obtain ⟨r2_, σ2, hσ2, hf⟩ := fcall_some hf
    refine fl_i hS (fl_runV (As := [.int v1, .int (2 : Int32)]) (rest := [.int v2]) C hP rfl (Nat.le_of_ble_eq_true rfl) rfl (m_X8_of C.2.2.2.2.2.2.2.2 l  hσ2) (fgV tw_1118 tw_1120 tw_43 tw_75 tw_1121) hd_X8_of ⟨rfl, rfl, Nat.le_of_ble_eq_true rfl, Nat.le_of_ble_eq_true rfl⟩ rfl hl.1 rfl (Nat.le_of_ble_eq_true rfl) (kd kX8_shallow_0 15 rfl)) (fun H locs hP hS => ?_)
    refine lv_icmp_eq (tgt := 44) C.1 C.2.1 (kd kX8_shallow_0 16 rfl) (by decide) (fun q => ?_) (fun q => ?_)
    · have hf := fif_pos q hf
      exact w_X8_shallow_b44 C hK7 (v1) (v2) σ2 H locs ls hf hP hS (lv_sub hl [0, 1, 2] rfl)
    have hf := fif_neg q hf
    refine lv_iload_n C.1 C.2.1 (kd kX8_shallow_0 17 rfl) rfl (lv_at hl 2 rfl) ?_
    refine lv_aload_n C.1 C.2.1 (kd kX8_shallow_0 18 rfl) rfl (lv_at hl 0 rfl) ?_
    refine lv_iload_n C.1 C.2.1 (kd kX8_shallow_0 19 rfl) rfl (lv_at hl 1 rfl) ?_
    refine lv_iconst (v := (3 : Int32)) C.1 C.2.1 (kd kX8_shallow_0 20 rfl) (by decide) ?_
    obtain ⟨r3_, σ3, hσ3, hf⟩ := fcall_some hf
    refine fl_i hS (fl_runV (As := [.int v1, .int (3 : Int32)]) (rest := [.int v2]) C hP rfl (Nat.le_of_ble_eq_true rfl) rfl (m_X8_of C.2.2.2.2.2.2.2.2 l  hσ3) (fgV tw_1118 tw_1120 tw_43 tw_75 tw_1121) hd_X8_of ⟨rfl, rfl, Nat.le_of_ble_eq_true rfl, Nat.le_of_ble_eq_true rfl⟩ rfl hl.1 rfl (Nat.le_of_ble_eq_true rfl) (kd kX8_shallow_0 21 rfl)) (fun H locs hP hS => ?_)
    refine lv_icmp_eq (tgt := 44) C.1 C.2.1 (kd kX8_shallow_0 22 rfl) (by decide) (fun q => ?_) (fun q => ?_)
    · have hf := fif_pos q hf
      exact w_X8_shallow_b44 C hK7 (v1) (v2) σ3 H locs ls hf hP hS (lv_sub hl [0, 1, 2] rfl)
    have hf := fif_neg q hf
    refine lv_iload_n C.1 C.2.1 (kd kX8_shallow_0 23 rfl) rfl (lv_at hl 2 rfl) ?_
    refine lv_bipush (v := (60 : Int32)) C.1 C.2.1 (kd kX8_shallow_0 24 rfl) (by decide) ?_
    refine lv_irem C.1 C.2.1 (kd kX8_shallow_0 25 rfl) (by decide) ?_
    refine lv_if_ne (tgt := 48) C.1 C.2.1 (kd kX8_shallow_0 26 rfl) (by decide) (fun q => ?_) (fun q => ?_)
    · have hf := fif_neg q hf
      refine lv_iconst (v := (0 : Int32)) C.1 C.2.1 (kd kX8_shallow_0 29 rfl) (by decide) ?_
      exact w_X8_shallow_b49 C hK7 (v1) (v2) ((0 : Int32)) σ3 H locs ls hf hP hS (lv_sub hl [0, 1, 2] rfl)
    have hf := fif_pos q hf
    exact w_X8_shallow_b44 C hK7 (v1) (v2) σ3 H locs ls hf hP hS (lv_sub hl [0, 1, 2] rfl)
def f_X8_shallow (x1 : Int32) (σ : fS) : Option (Int32 × fS) := fcall (f_X8_of x1 (2 : Int32) σ) (fun r1_ σ1 => f_X8_shallow_b7 fN (x1) (r1_) σ1)
set_option maxRecDepth 100000 in
set_option maxHeartbeats 4000000 in
theorem m_X8_shallow {Γ : fGm} (hI : fI Γ) (l : Launch) {x1 : Int32} {σ : fS} {r : Int32} {σ' : fS} (hf : f_X8_shallow x1 σ = some (r, σ')) : Met l yX8_shallow (.code yX8_shallow cX8_shallow 4 (some .int) :: lw_g) ({ frames := 4, cells := 0, slots := 0, locals := 90 } : Room) (fPre Γ [.ref (Γ.1 164), .int x1] σ) (fQi Γ r σ') 0 0 (fAd Γ) := by
  refine fl_enter (own := RX8) hI (by decide +kernel) rfl (Nat.le_of_ble_eq_true rfl) ?_
  intro p e s m args below meth c ls C hl hP hS
  have hl : lv_has ls 4 [(0, .ref (Γ.1 164)), (1, .int x1)] := hl
  obtain ⟨H, hH⟩ : ∃ H, H = s.heap := ⟨_, rfl⟩
  obtain ⟨locs, hL⟩ : ∃ L : List Loc, L = [] := ⟨_, rfl⟩
  have hP : fH Γ σ H := by rw [hH]; exact hP
  have hS : va_S (fAd Γ) s.heap H locs := by rw [hH, hL]; exact hS
  suffices hw : W p l e ({ frames := 4, cells := 0, slots := 0, locals := 90 } : Room) s m args below meth c H locs 0 0 (MQ below (fQi Γ r σ') args s 0 0 (fAd Γ)) (F0 m 0 ls []) by rw [hH, hL] at hw; exact hw
  unfold f_X8_shallow at hf
  refine lv_aload_n C.1 C.2.1 (kd kX8_shallow_0 0 rfl) rfl (lv_at hl 0 rfl) ?_
  refine lv_iload_n C.1 C.2.1 (kd kX8_shallow_0 1 rfl) rfl (lv_at hl 1 rfl) ?_
  refine lv_iconst (v := (2 : Int32)) C.1 C.2.1 (kd kX8_shallow_0 2 rfl) (by decide) ?_
  obtain ⟨r1_, σ1, hσ1, hf⟩ := fcall_some hf
  refine fl_i hS (fl_runV (As := [.int x1, .int (2 : Int32)]) (rest := []) C hP rfl (Nat.le_of_ble_eq_true rfl) rfl (m_X8_of C.2.2.2.2.2.2.2.2 l  hσ1) (fgV tw_1118 tw_1120 tw_43 tw_75 tw_1121) hd_X8_of ⟨rfl, rfl, Nat.le_of_ble_eq_true rfl, Nat.le_of_ble_eq_true rfl⟩ rfl hl.1 rfl (Nat.le_of_ble_eq_true rfl) (kd kX8_shallow_0 3 rfl)) (fun H locs hP hS => ?_)
  refine lv_istore_n (lv' := [(2, .int r1_), (0, .ref (Γ.1 164)), (1, .int x1)]) C.1 C.2.1 (kd kX8_shallow_0 4 rfl) rfl hl (Nat.le_of_ble_eq_true rfl) rfl (fun ls hl => ?_)
  exact w_X8_shallow_b7 C fN (x1) (r1_) σ1 H locs ls hf hP hS (lv_sub hl [1, 2, 0] rfl)
def f_X8_blocker_b101 (K2 : Int32 → Int32 → Int32 → fS → Option (Int32 × fS)) (v1 : Int32) (v2 : Int32) (v3 : Int32) (σ : fS) : Option (Int32 × fS) := K2 (v1) (v2) ((v3 + (1 : Int32))) σ
set_option maxRecDepth 100000 in
set_option maxHeartbeats 4000000 in
theorem w_X8_blocker_b101 {r : Int32} {σ' : fS} {K2 : Int32 → Int32 → Int32 → fS → Option (Int32 × fS)}  (C : fC Γ p s m args meth c cX8_blocker (some .int) RX8 6) (hK2 : ∀ (v1 : Int32) (v2 : Int32) (v3 : Int32) (σ : fS) (H : Heap) (locs : List Loc) (ls : Array Slot), K2 v1 v2 v3 σ = some (r, σ') → fH Γ σ H → va_S (fAd Γ) s.heap H locs → lv_has ls 6 [(0, .ref (Γ.1 164)), (1, .int v1), (2, .int v2), (3, .int v3)] → W p l e ({ frames := 1, cells := 0, slots := 0, locals := 22 } : Room) s m args below meth c H locs 0 0 (MQ below (fQi Γ r σ') args s 0 0 (fAd Γ)) (F0 m 2 ls [])) : ∀ (v1 : Int32) (v2 : Int32) (v3 : Int32) (σ : fS) (H : Heap) (locs : List Loc) (ls : Array Slot), f_X8_blocker_b101 K2 v1 v2 v3 σ = some (r, σ') → fH Γ σ H → va_S (fAd Γ) s.heap H locs → lv_has ls 6 [(0, .ref (Γ.1 164)), (1, .int v1), (2, .int v2), (3, .int v3)] → W p l e ({ frames := 1, cells := 0, slots := 0, locals := 22 } : Room) s m args below meth c H locs 0 0 (MQ below (fQi Γ r σ') args s 0 0 (fAd Γ)) (F0 m 101 ls []) := by
  intro v1 v2 v3 σ H locs ls hf hP hS hl
  unfold f_X8_blocker_b101 at hf
  refine lv_iinc (v := (v3 + (1 : Int32))) (lv' := [(3, .int (v3 + (1 : Int32))), (0, .ref (Γ.1 164)), (1, .int v1), (2, .int v2)]) C.1 C.2.1 (kd kX8_blocker_0 58 rfl) hl (k := 3) rfl rfl (Nat.le_of_ble_eq_true rfl) rfl (fun ls hl => ?_)
  refine lv_goto (tgt := 2) C.1 C.2.1 (kd kX8_blocker_0 59 rfl) (by decide) ?_
  exact hK2 (v1) (v2) ((v3 + (1 : Int32))) σ H locs ls hf hP hS (lv_sub hl [1, 2, 3, 0] rfl)
def f_X8_blocker_b65 (K2 : Int32 → Int32 → Int32 → fS → Option (Int32 × fS)) (v1 : Int32) (v2 : Int32) (v3 : Int32) (v4 : Int32) (s0 : Int32) (σ : fS) : Option (Int32 × fS) := fb v4 12 ((if (σ 173 v4.toNatClampNeg) = 0 then fcall (f_X8_of v4 v2 σ) (fun r1_ σ1 => fcall (f_X8_of v1 v2 σ1) (fun r2_ σ2 => (if r1_ = r2_ then (if s0 = 0 then f_X8_blocker_b101 K2 (v1) (v2) (v3) σ2 else some (v4, σ2)) else f_X8_blocker_b101 K2 (v1) (v2) (v3) σ2))) else f_X8_blocker_b101 K2 (v1) (v2) (v3) σ))
set_option maxRecDepth 100000 in
set_option maxHeartbeats 4000000 in
theorem w_X8_blocker_b65 {r : Int32} {σ' : fS} {K2 : Int32 → Int32 → Int32 → fS → Option (Int32 × fS)}  (C : fC Γ p s m args meth c cX8_blocker (some .int) RX8 6) (hK2 : ∀ (v1 : Int32) (v2 : Int32) (v3 : Int32) (σ : fS) (H : Heap) (locs : List Loc) (ls : Array Slot), K2 v1 v2 v3 σ = some (r, σ') → fH Γ σ H → va_S (fAd Γ) s.heap H locs → lv_has ls 6 [(0, .ref (Γ.1 164)), (1, .int v1), (2, .int v2), (3, .int v3)] → W p l e ({ frames := 1, cells := 0, slots := 0, locals := 22 } : Room) s m args below meth c H locs 0 0 (MQ below (fQi Γ r σ') args s 0 0 (fAd Γ)) (F0 m 2 ls [])) : ∀ (v1 : Int32) (v2 : Int32) (v3 : Int32) (v4 : Int32) (s0 : Int32) (σ : fS) (H : Heap) (locs : List Loc) (ls : Array Slot), f_X8_blocker_b65 K2 v1 v2 v3 v4 s0 σ = some (r, σ') → fH Γ σ H → va_S (fAd Γ) s.heap H locs → lv_has ls 6 [(0, .ref (Γ.1 164)), (1, .int v1), (2, .int v2), (3, .int v3), (4, .int v4)] → W p l e ({ frames := 1, cells := 0, slots := 0, locals := 22 } : Room) s m args below meth c H locs 0 0 (MQ below (fQi Γ r σ') args s 0 0 (fAd Γ)) (F0 m 65 ls [.int s0]) := by
  intro v1 v2 v3 v4 s0 σ H locs ls hf hP hS hl
  unfold f_X8_blocker_b65 at hf
  refine lv_istore (lv' := [(5, .int s0), (0, .ref (Γ.1 164)), (1, .int v1), (2, .int v2), (3, .int v3), (4, .int v4)]) C.1 C.2.1 (kd kX8_blocker_0 39 rfl) hl (Nat.le_of_ble_eq_true rfl) rfl (fun ls hl => ?_)
  refine lv_aload_n C.1 C.2.1 (kd kX8_blocker_0 40 rfl) rfl (lv_at hl 1 rfl) ?_
  refine fl_get (j := 14) (v := .ref (Γ.1 173)) C hP rfl (Nat.le_of_ble_eq_true rfl) rfl inX8 (Nat.le_of_ble_eq_true rfl) tw_876 rfl (kd kX8_blocker_0 41 rfl) ?_
  refine lv_iload C.1 C.2.1 (kd kX8_blocker_0 42 rfl) (lv_at hl 5 rfl) ?_
  obtain ⟨hq, hf⟩ := fb_some hf
  refine fl_iald C hP rfl hq (kd kX8_blocker_0 43 rfl) ?_
  refine lv_if_ne (tgt := 101) C.1 C.2.1 (kd kX8_blocker_0 44 rfl) (by decide) (fun q => ?_) (fun q => ?_)
  · have hf := fif_neg q hf
    exact w_X8_blocker_b101 C hK2 (v1) (v2) (v3) σ H locs ls hf hP hS (lv_sub hl [1, 2, 3, 4] rfl)
  have hf := fif_pos q hf
  refine lv_aload_n C.1 C.2.1 (kd kX8_blocker_0 45 rfl) rfl (lv_at hl 1 rfl) ?_
  refine lv_iload C.1 C.2.1 (kd kX8_blocker_0 46 rfl) (lv_at hl 5 rfl) ?_
  refine lv_iload_n C.1 C.2.1 (kd kX8_blocker_0 47 rfl) rfl (lv_at hl 3 rfl) ?_
  obtain ⟨r1_, σ1, hσ1, hf⟩ := fcall_some hf
  refine fl_i hS (fl_runV (As := [.int v4, .int v2]) (rest := []) C hP rfl (Nat.le_of_ble_eq_true rfl) rfl (m_X8_of C.2.2.2.2.2.2.2.2 l  hσ1) (fgV tw_1118 tw_1120 tw_43 tw_75 tw_1121) hd_X8_of ⟨rfl, rfl, Nat.le_of_ble_eq_true rfl, Nat.le_of_ble_eq_true rfl⟩ rfl hl.1 rfl (Nat.le_of_ble_eq_true rfl) (kd kX8_blocker_0 48 rfl)) (fun H locs hP hS => ?_)
  refine lv_aload_n C.1 C.2.1 (kd kX8_blocker_0 49 rfl) rfl (lv_at hl 1 rfl) ?_
  refine lv_iload_n C.1 C.2.1 (kd kX8_blocker_0 50 rfl) rfl (lv_at hl 2 rfl) ?_
  refine lv_iload_n C.1 C.2.1 (kd kX8_blocker_0 51 rfl) rfl (lv_at hl 3 rfl) ?_
  obtain ⟨r2_, σ2, hσ2, hf⟩ := fcall_some hf
  refine fl_i hS (fl_runV (As := [.int v1, .int v2]) (rest := [.int r1_]) C hP rfl (Nat.le_of_ble_eq_true rfl) rfl (m_X8_of C.2.2.2.2.2.2.2.2 l  hσ2) (fgV tw_1118 tw_1120 tw_43 tw_75 tw_1121) hd_X8_of ⟨rfl, rfl, Nat.le_of_ble_eq_true rfl, Nat.le_of_ble_eq_true rfl⟩ rfl hl.1 rfl (Nat.le_of_ble_eq_true rfl) (kd kX8_blocker_0 52 rfl)) (fun H locs hP hS => ?_)
  refine lv_icmp_ne (tgt := 101) C.1 C.2.1 (kd kX8_blocker_0 53 rfl) (by decide) (fun q => ?_) (fun q => ?_)
  · have hf := fif_neg q hf
    exact w_X8_blocker_b101 C hK2 (v1) (v2) (v3) σ2 H locs ls hf hP hS (lv_sub hl [1, 2, 3, 4] rfl)
  have hf := fif_pos q hf
  refine lv_iload C.1 C.2.1 (kd kX8_blocker_0 54 rfl) (lv_at hl 0 rfl) ?_
  refine lv_if_eq (tgt := 101) C.1 C.2.1 (kd kX8_blocker_0 55 rfl) (by decide) (fun q => ?_) (fun q => ?_)
  · have hf := fif_pos q hf
    exact w_X8_blocker_b101 C hK2 (v1) (v2) (v3) σ2 H locs ls hf hP hS (lv_sub hl [1, 2, 3, 4] rfl)
  have hf := fif_neg q hf
  refine lv_iload C.1 C.2.1 (kd kX8_blocker_0 56 rfl) (lv_at hl 5 rfl) ?_
  exact fl_iret C hP hS hf (kd kX8_blocker_0 57 rfl)
def f_X8_blocker_b64 (K2 : Int32 → Int32 → Int32 → fS → Option (Int32 × fS)) (v1 : Int32) (v2 : Int32) (v3 : Int32) (v4 : Int32) (σ : fS) : Option (Int32 × fS) := f_X8_blocker_b65 K2 (v1) (v2) (v3) (v4) ((0 : Int32)) σ
set_option maxRecDepth 100000 in
set_option maxHeartbeats 4000000 in
theorem w_X8_blocker_b64 {r : Int32} {σ' : fS} {K2 : Int32 → Int32 → Int32 → fS → Option (Int32 × fS)}  (C : fC Γ p s m args meth c cX8_blocker (some .int) RX8 6) (hK2 : ∀ (v1 : Int32) (v2 : Int32) (v3 : Int32) (σ : fS) (H : Heap) (locs : List Loc) (ls : Array Slot), K2 v1 v2 v3 σ = some (r, σ') → fH Γ σ H → va_S (fAd Γ) s.heap H locs → lv_has ls 6 [(0, .ref (Γ.1 164)), (1, .int v1), (2, .int v2), (3, .int v3)] → W p l e ({ frames := 1, cells := 0, slots := 0, locals := 22 } : Room) s m args below meth c H locs 0 0 (MQ below (fQi Γ r σ') args s 0 0 (fAd Γ)) (F0 m 2 ls [])) : ∀ (v1 : Int32) (v2 : Int32) (v3 : Int32) (v4 : Int32) (σ : fS) (H : Heap) (locs : List Loc) (ls : Array Slot), f_X8_blocker_b64 K2 v1 v2 v3 v4 σ = some (r, σ') → fH Γ σ H → va_S (fAd Γ) s.heap H locs → lv_has ls 6 [(0, .ref (Γ.1 164)), (1, .int v1), (2, .int v2), (3, .int v3), (4, .int v4)] → W p l e ({ frames := 1, cells := 0, slots := 0, locals := 22 } : Room) s m args below meth c H locs 0 0 (MQ below (fQi Γ r σ') args s 0 0 (fAd Γ)) (F0 m 64 ls []) := by
  intro v1 v2 v3 v4 σ H locs ls hf hP hS hl
  unfold f_X8_blocker_b64 at hf
  refine lv_iconst (v := (0 : Int32)) C.1 C.2.1 (kd kX8_blocker_0 38 rfl) (by decide) ?_
  exact w_X8_blocker_b65 C hK2 (v1) (v2) (v3) (v4) ((0 : Int32)) σ H locs ls hf hP hS (lv_sub hl [0, 1, 2, 3, 4] rfl)
def f_X8_blocker_b2 : Nat → Int32 → Int32 → Int32 → fS → Option (Int32 × fS)
  | 0, _, _, _, _ => none
  | n_ + 1, v1, v2, v3, σ => fb v1 12 ((if (σ 172 v1.toNatClampNeg) ≤ v3 then some ((-1 : Int32), σ) else fb v3 12 (fcall (f_X8_of (σ 171 v3.toNatClampNeg) (2 : Int32) σ) (fun r1_ σ1 => fcall (f_X8_of v1 (3 : Int32) σ1) (fun r2_ σ2 => (if r2_ ≤ r1_ then f_X8_blocker_b64 (fun v1 v2 v3 σ => f_X8_blocker_b2 n_ v1 v2 v3 σ) (v1) (v2) (v3) ((σ 171 v3.toNatClampNeg)) σ2 else fcall (f_X8_of v1 (2 : Int32) σ2) (fun r3_ σ3 => fcall (f_X8_of (σ 171 v3.toNatClampNeg) (3 : Int32) σ3) (fun r4_ σ4 => fb (σ 171 v3.toNatClampNeg) 12 ((if (r4_ + (σ4 175 (σ 171 v3.toNatClampNeg).toNatClampNeg)) ≤ r3_ then f_X8_blocker_b64 (fun v1 v2 v3 σ => f_X8_blocker_b2 n_ v1 v2 v3 σ) (v1) (v2) (v3) ((σ 171 v3.toNatClampNeg)) σ4 else f_X8_blocker_b65 (fun v1 v2 v3 σ => f_X8_blocker_b2 n_ v1 v2 v3 σ) (v1) (v2) (v3) ((σ 171 v3.toNatClampNeg)) ((1 : Int32)) σ4))))))))))
set_option maxRecDepth 100000 in
set_option maxHeartbeats 4000000 in
theorem w_X8_blocker_b2 {r : Int32} {σ' : fS}  (C : fC Γ p s m args meth c cX8_blocker (some .int) RX8 6) : ∀ (n_ : Nat) (v1 : Int32) (v2 : Int32) (v3 : Int32) (σ : fS) (H : Heap) (locs : List Loc) (ls : Array Slot), f_X8_blocker_b2 n_ v1 v2 v3 σ = some (r, σ') → fH Γ σ H → va_S (fAd Γ) s.heap H locs → lv_has ls 6 [(0, .ref (Γ.1 164)), (1, .int v1), (2, .int v2), (3, .int v3)] → W p l e ({ frames := 1, cells := 0, slots := 0, locals := 22 } : Room) s m args below meth c H locs 0 0 (MQ below (fQi Γ r σ') args s 0 0 (fAd Γ)) (F0 m 2 ls []) := by
  intro n_
  induction n_ with
  | zero =>
    intro v1 v2 v3 σ H locs ls hf
    cases hf
  | succ n_ ih =>
    intro v1 v2 v3 σ H locs ls hf hP hS hl
    have hf : fb v1 12 ((if (σ 172 v1.toNatClampNeg) ≤ v3 then some ((-1 : Int32), σ) else fb v3 12 (fcall (f_X8_of (σ 171 v3.toNatClampNeg) (2 : Int32) σ) (fun r1_ σ1 => fcall (f_X8_of v1 (3 : Int32) σ1) (fun r2_ σ2 => (if r2_ ≤ r1_ then f_X8_blocker_b64 (fun v1 v2 v3 σ => f_X8_blocker_b2 n_ v1 v2 v3 σ) (v1) (v2) (v3) ((σ 171 v3.toNatClampNeg)) σ2 else fcall (f_X8_of v1 (2 : Int32) σ2) (fun r3_ σ3 => fcall (f_X8_of (σ 171 v3.toNatClampNeg) (3 : Int32) σ3) (fun r4_ σ4 => fb (σ 171 v3.toNatClampNeg) 12 ((if (r4_ + (σ4 175 (σ 171 v3.toNatClampNeg).toNatClampNeg)) ≤ r3_ then f_X8_blocker_b64 (fun v1 v2 v3 σ => f_X8_blocker_b2 n_ v1 v2 v3 σ) (v1) (v2) (v3) ((σ 171 v3.toNatClampNeg)) σ4 else f_X8_blocker_b65 (fun v1 v2 v3 σ => f_X8_blocker_b2 n_ v1 v2 v3 σ) (v1) (v2) (v3) ((σ 171 v3.toNatClampNeg)) ((1 : Int32)) σ4)))))))))) = some (r, σ') := hf
    have hK2 := ih
    refine lv_iload_n C.1 C.2.1 (kd kX8_blocker_0 2 rfl) rfl (lv_at hl 3 rfl) ?_
    refine lv_aload_n C.1 C.2.1 (kd kX8_blocker_0 3 rfl) rfl (lv_at hl 0 rfl) ?_
    refine fl_get (j := 13) (v := .ref (Γ.1 172)) C hP rfl (Nat.le_of_ble_eq_true rfl) rfl inX8 (Nat.le_of_ble_eq_true rfl) tw_875 rfl (kd kX8_blocker_0 4 rfl) ?_
    refine lv_iload_n C.1 C.2.1 (kd kX8_blocker_0 5 rfl) rfl (lv_at hl 1 rfl) ?_
    obtain ⟨hq, hf⟩ := fb_some hf
    refine fl_iald C hP rfl hq (kd kX8_blocker_0 6 rfl) ?_
    refine lv_icmp_ge (tgt := 107) C.1 C.2.1 (kd kX8_blocker_0 7 rfl) (by decide) (fun q => ?_) (fun q => ?_)
    · have hf := fif_pos q hf
      refine lv_iconst (v := (-1 : Int32)) C.1 C.2.1 (kd kX8_blocker_1 0 rfl) (by decide) ?_
      exact fl_iret C hP hS hf (kd kX8_blocker_1 1 rfl)
    have hf := fif_neg q hf
    refine lv_aload_n C.1 C.2.1 (kd kX8_blocker_0 8 rfl) rfl (lv_at hl 0 rfl) ?_
    refine fl_get (j := 12) (v := .ref (Γ.1 171)) C hP rfl (Nat.le_of_ble_eq_true rfl) rfl inX8 (Nat.le_of_ble_eq_true rfl) tw_874 rfl (kd kX8_blocker_0 9 rfl) ?_
    refine lv_iload_n C.1 C.2.1 (kd kX8_blocker_0 10 rfl) rfl (lv_at hl 3 rfl) ?_
    obtain ⟨hq, hf⟩ := fb_some hf
    refine fl_iald C hP rfl hq (kd kX8_blocker_0 11 rfl) ?_
    refine lv_istore (lv' := [(4, .int (σ 171 v3.toNatClampNeg)), (0, .ref (Γ.1 164)), (1, .int v1), (2, .int v2), (3, .int v3)]) C.1 C.2.1 (kd kX8_blocker_0 12 rfl) hl (Nat.le_of_ble_eq_true rfl) rfl (fun ls hl => ?_)
    refine lv_aload_n C.1 C.2.1 (kd kX8_blocker_0 13 rfl) rfl (lv_at hl 1 rfl) ?_
    refine lv_iload C.1 C.2.1 (kd kX8_blocker_0 14 rfl) (lv_at hl 0 rfl) ?_
    refine lv_iconst (v := (2 : Int32)) C.1 C.2.1 (kd kX8_blocker_0 15 rfl) (by decide) ?_
    obtain ⟨r1_, σ1, hσ1, hf⟩ := fcall_some hf
    refine fl_i hS (fl_runV (As := [.int (σ 171 v3.toNatClampNeg), .int (2 : Int32)]) (rest := []) C hP rfl (Nat.le_of_ble_eq_true rfl) rfl (m_X8_of C.2.2.2.2.2.2.2.2 l  hσ1) (fgV tw_1118 tw_1120 tw_43 tw_75 tw_1121) hd_X8_of ⟨rfl, rfl, Nat.le_of_ble_eq_true rfl, Nat.le_of_ble_eq_true rfl⟩ rfl hl.1 rfl (Nat.le_of_ble_eq_true rfl) (kd kX8_blocker_0 16 rfl)) (fun H locs hP hS => ?_)
    refine lv_aload_n C.1 C.2.1 (kd kX8_blocker_0 17 rfl) rfl (lv_at hl 1 rfl) ?_
    refine lv_iload_n C.1 C.2.1 (kd kX8_blocker_0 18 rfl) rfl (lv_at hl 2 rfl) ?_
    refine lv_iconst (v := (3 : Int32)) C.1 C.2.1 (kd kX8_blocker_0 19 rfl) (by decide) ?_
    obtain ⟨r2_, σ2, hσ2, hf⟩ := fcall_some hf
    refine fl_i hS (fl_runV (As := [.int v1, .int (3 : Int32)]) (rest := [.int r1_]) C hP rfl (Nat.le_of_ble_eq_true rfl) rfl (m_X8_of C.2.2.2.2.2.2.2.2 l  hσ2) (fgV tw_1118 tw_1120 tw_43 tw_75 tw_1121) hd_X8_of ⟨rfl, rfl, Nat.le_of_ble_eq_true rfl, Nat.le_of_ble_eq_true rfl⟩ rfl hl.1 rfl (Nat.le_of_ble_eq_true rfl) (kd kX8_blocker_0 20 rfl)) (fun H locs hP hS => ?_)
    refine lv_icmp_ge (tgt := 64) C.1 C.2.1 (kd kX8_blocker_0 21 rfl) (by decide) (fun q => ?_) (fun q => ?_)
    · have hf := fif_pos q hf
      exact w_X8_blocker_b64 C hK2 (v1) (v2) (v3) ((σ 171 v3.toNatClampNeg)) σ2 H locs ls hf hP hS (lv_sub hl [1, 2, 3, 4, 0] rfl)
    have hf := fif_neg q hf
    refine lv_aload_n C.1 C.2.1 (kd kX8_blocker_0 22 rfl) rfl (lv_at hl 1 rfl) ?_
    refine lv_iload_n C.1 C.2.1 (kd kX8_blocker_0 23 rfl) rfl (lv_at hl 2 rfl) ?_
    refine lv_iconst (v := (2 : Int32)) C.1 C.2.1 (kd kX8_blocker_0 24 rfl) (by decide) ?_
    obtain ⟨r3_, σ3, hσ3, hf⟩ := fcall_some hf
    refine fl_i hS (fl_runV (As := [.int v1, .int (2 : Int32)]) (rest := []) C hP rfl (Nat.le_of_ble_eq_true rfl) rfl (m_X8_of C.2.2.2.2.2.2.2.2 l  hσ3) (fgV tw_1118 tw_1120 tw_43 tw_75 tw_1121) hd_X8_of ⟨rfl, rfl, Nat.le_of_ble_eq_true rfl, Nat.le_of_ble_eq_true rfl⟩ rfl hl.1 rfl (Nat.le_of_ble_eq_true rfl) (kd kX8_blocker_0 25 rfl)) (fun H locs hP hS => ?_)
    refine lv_aload_n C.1 C.2.1 (kd kX8_blocker_0 26 rfl) rfl (lv_at hl 1 rfl) ?_
    refine lv_iload C.1 C.2.1 (kd kX8_blocker_0 27 rfl) (lv_at hl 0 rfl) ?_
    refine lv_iconst (v := (3 : Int32)) C.1 C.2.1 (kd kX8_blocker_0 28 rfl) (by decide) ?_
    obtain ⟨r4_, σ4, hσ4, hf⟩ := fcall_some hf
    refine fl_i hS (fl_runV (As := [.int (σ 171 v3.toNatClampNeg), .int (3 : Int32)]) (rest := [.int r3_]) C hP rfl (Nat.le_of_ble_eq_true rfl) rfl (m_X8_of C.2.2.2.2.2.2.2.2 l  hσ4) (fgV tw_1118 tw_1120 tw_43 tw_75 tw_1121) hd_X8_of ⟨rfl, rfl, Nat.le_of_ble_eq_true rfl, Nat.le_of_ble_eq_true rfl⟩ rfl hl.1 rfl (Nat.le_of_ble_eq_true rfl) (kd kX8_blocker_0 29 rfl)) (fun H locs hP hS => ?_)
    refine lv_aload_n C.1 C.2.1 (kd kX8_blocker_0 30 rfl) rfl (lv_at hl 1 rfl) ?_
    refine fl_get (j := 16) (v := .ref (Γ.1 175)) C hP rfl (Nat.le_of_ble_eq_true rfl) rfl inX8 (Nat.le_of_ble_eq_true rfl) tw_878 rfl (kd kX8_blocker_0 31 rfl) ?_
    refine lv_iload C.1 C.2.1 (kd kX8_blocker_0 32 rfl) (lv_at hl 0 rfl) ?_
    obtain ⟨hq, hf⟩ := fb_some hf
    refine fl_iald C hP rfl hq (kd kX8_blocker_0 33 rfl) ?_
    refine lv_iadd C.1 C.2.1 (kd kX8_blocker_0 34 rfl) ?_
    refine lv_icmp_ge (tgt := 64) C.1 C.2.1 (kd kX8_blocker_0 35 rfl) (by decide) (fun q => ?_) (fun q => ?_)
    · have hf := fif_pos q hf
      exact w_X8_blocker_b64 C hK2 (v1) (v2) (v3) ((σ 171 v3.toNatClampNeg)) σ4 H locs ls hf hP hS (lv_sub hl [1, 2, 3, 4, 0] rfl)
    have hf := fif_neg q hf
    refine lv_iconst (v := (1 : Int32)) C.1 C.2.1 (kd kX8_blocker_0 36 rfl) (by decide) ?_
    refine lv_goto (tgt := 65) C.1 C.2.1 (kd kX8_blocker_0 37 rfl) (by decide) ?_
    exact w_X8_blocker_b65 C hK2 (v1) (v2) (v3) ((σ 171 v3.toNatClampNeg)) ((1 : Int32)) σ4 H locs ls hf hP hS (lv_sub hl [1, 2, 3, 4, 0] rfl)
def f_X8_blocker (x1 : Int32) (x2 : Int32) (σ : fS) : Option (Int32 × fS) := f_X8_blocker_b2 fN (x1) (x2) ((0 : Int32)) σ
set_option maxRecDepth 100000 in
set_option maxHeartbeats 4000000 in
theorem m_X8_blocker {Γ : fGm} (hI : fI Γ) (l : Launch) {x1 : Int32} {x2 : Int32} {σ : fS} {r : Int32} {σ' : fS} (hf : f_X8_blocker x1 x2 σ = some (r, σ')) : Met l yX8_blocker (.code yX8_blocker cX8_blocker 6 (some .int) :: lw_g) ({ frames := 1, cells := 0, slots := 0, locals := 22 } : Room) (fPre Γ [.ref (Γ.1 164), .int x1, .int x2] σ) (fQi Γ r σ') 0 0 (fAd Γ) := by
  refine fl_enter (own := RX8) hI (by decide +kernel) rfl (Nat.le_of_ble_eq_true rfl) ?_
  intro p e s m args below meth c ls C hl hP hS
  have hl : lv_has ls 6 [(0, .ref (Γ.1 164)), (1, .int x1), (2, .int x2)] := hl
  obtain ⟨H, hH⟩ : ∃ H, H = s.heap := ⟨_, rfl⟩
  obtain ⟨locs, hL⟩ : ∃ L : List Loc, L = [] := ⟨_, rfl⟩
  have hP : fH Γ σ H := by rw [hH]; exact hP
  have hS : va_S (fAd Γ) s.heap H locs := by rw [hH, hL]; exact hS
  suffices hw : W p l e ({ frames := 1, cells := 0, slots := 0, locals := 22 } : Room) s m args below meth c H locs 0 0 (MQ below (fQi Γ r σ') args s 0 0 (fAd Γ)) (F0 m 0 ls []) by rw [hH, hL] at hw; exact hw
  unfold f_X8_blocker at hf
  refine lv_iconst (v := (0 : Int32)) C.1 C.2.1 (kd kX8_blocker_0 0 rfl) (by decide) ?_
  refine lv_istore_n (lv' := [(3, .int (0 : Int32)), (0, .ref (Γ.1 164)), (1, .int x1), (2, .int x2)]) C.1 C.2.1 (kd kX8_blocker_0 1 rfl) rfl hl (Nat.le_of_ble_eq_true rfl) rfl (fun ls hl => ?_)
  exact w_X8_blocker_b2 C fN (x1) (x2) ((0 : Int32)) σ H locs ls hf hP hS (lv_sub hl [1, 2, 3, 0] rfl)
def f_X8_kindOf_b62 (v2 : Int32) (v3 : Int32) (s0 : Int32) (σ : fS) : Option (Int32 × fS) := (if s0 = 0 then some ((2 : Int32), σ) else fcall (f_X8_of v2 (0 : Int32) σ) (fun r1_ σ1 => fcall (f_X8_isCalm r1_ v3 σ1) (fun r2_ σ2 => (if r2_ = 0 then some ((2 : Int32), σ2) else fcall (f_X8_of v2 (0 : Int32) σ2) (fun r3_ σ3 => fcall (f_X8_of v2 (1 : Int32) σ3) (fun r4_ σ4 => fcall (f_X8_isDeep r3_ r4_ v3 σ4) (fun r5_ σ5 => (if r5_ = 0 then some ((2 : Int32), σ5) else some ((1 : Int32), σ5)))))))))
set_option maxRecDepth 100000 in
set_option maxHeartbeats 4000000 in
theorem w_X8_kindOf_b62 {r : Int32} {σ' : fS}  (C : fC Γ p s m args meth c cX8_kindOf (some .int) RX8 5) : ∀ (v2 : Int32) (v3 : Int32) (s0 : Int32) (σ : fS) (H : Heap) (locs : List Loc) (ls : Array Slot), f_X8_kindOf_b62 v2 v3 s0 σ = some (r, σ') → fH Γ σ H → va_S (fAd Γ) s.heap H locs → lv_has ls 5 [(0, .ref (Γ.1 164)), (2, .int v2), (3, .int v3)] → W p l e ({ frames := 4, cells := 0, slots := 0, locals := 90 } : Room) s m args below meth c H locs 0 0 (MQ below (fQi Γ r σ') args s 0 0 (fAd Γ)) (F0 m 62 ls [.int s0]) := by
  intro v2 v3 s0 σ H locs ls hf hP hS hl
  unfold f_X8_kindOf_b62 at hf
  refine lv_istore (lv' := [(4, .int s0), (0, .ref (Γ.1 164)), (2, .int v2), (3, .int v3)]) C.1 C.2.1 (kd kX8_kindOf_0 41 rfl) hl (Nat.le_of_ble_eq_true rfl) rfl (fun ls hl => ?_)
  refine lv_iload C.1 C.2.1 (kd kX8_kindOf_0 42 rfl) (lv_at hl 0 rfl) ?_
  refine lv_if_eq (tgt := 107) C.1 C.2.1 (kd kX8_kindOf_0 43 rfl) (by decide) (fun q => ?_) (fun q => ?_)
  · have hf := fif_pos q hf
    refine lv_iconst (v := (2 : Int32)) C.1 C.2.1 (kd kX8_kindOf_1 6 rfl) (by decide) ?_
    exact fl_iret C hP hS hf (kd kX8_kindOf_1 7 rfl)
  have hf := fif_neg q hf
  refine lv_aload_n C.1 C.2.1 (kd kX8_kindOf_0 44 rfl) rfl (lv_at hl 1 rfl) ?_
  refine lv_aload_n C.1 C.2.1 (kd kX8_kindOf_0 45 rfl) rfl (lv_at hl 1 rfl) ?_
  refine lv_iload_n C.1 C.2.1 (kd kX8_kindOf_0 46 rfl) rfl (lv_at hl 2 rfl) ?_
  refine lv_iconst (v := (0 : Int32)) C.1 C.2.1 (kd kX8_kindOf_0 47 rfl) (by decide) ?_
  obtain ⟨r1_, σ1, hσ1, hf⟩ := fcall_some hf
  refine fl_i hS (fl_runV (As := [.int v2, .int (0 : Int32)]) (rest := [.ref (Γ.1 164)]) C hP rfl (Nat.le_of_ble_eq_true rfl) rfl (m_X8_of C.2.2.2.2.2.2.2.2 l  hσ1) (fgV tw_1118 tw_1120 tw_43 tw_75 tw_1121) hd_X8_of ⟨rfl, rfl, Nat.le_of_ble_eq_true rfl, Nat.le_of_ble_eq_true rfl⟩ rfl hl.1 rfl (Nat.le_of_ble_eq_true rfl) (kd kX8_kindOf_0 48 rfl)) (fun H locs hP hS => ?_)
  refine lv_iload_n C.1 C.2.1 (kd kX8_kindOf_0 49 rfl) rfl (lv_at hl 3 rfl) ?_
  obtain ⟨r2_, σ2, hσ2, hf⟩ := fcall_some hf
  refine fl_i hS (fl_runV (As := [.int r1_, .int v3]) (rest := []) C hP rfl (Nat.le_of_ble_eq_true rfl) rfl (m_X8_isCalm C.2.2.2.2.2.2.2.2 l  hσ2) (fgV tw_1151 tw_1153 tw_51 tw_75 tw_1154) hd_X8_isCalm ⟨rfl, rfl, Nat.le_of_ble_eq_true rfl, Nat.le_of_ble_eq_true rfl⟩ rfl hl.1 rfl (Nat.le_of_ble_eq_true rfl) (kd kX8_kindOf_0 50 rfl)) (fun H locs hP hS => ?_)
  refine lv_if_eq (tgt := 107) C.1 C.2.1 (kd kX8_kindOf_0 51 rfl) (by decide) (fun q => ?_) (fun q => ?_)
  · have hf := fif_pos q hf
    refine lv_iconst (v := (2 : Int32)) C.1 C.2.1 (kd kX8_kindOf_1 6 rfl) (by decide) ?_
    exact fl_iret C hP hS hf (kd kX8_kindOf_1 7 rfl)
  have hf := fif_neg q hf
  refine lv_aload_n C.1 C.2.1 (kd kX8_kindOf_0 52 rfl) rfl (lv_at hl 1 rfl) ?_
  refine lv_aload_n C.1 C.2.1 (kd kX8_kindOf_0 53 rfl) rfl (lv_at hl 1 rfl) ?_
  refine lv_iload_n C.1 C.2.1 (kd kX8_kindOf_0 54 rfl) rfl (lv_at hl 2 rfl) ?_
  refine lv_iconst (v := (0 : Int32)) C.1 C.2.1 (kd kX8_kindOf_0 55 rfl) (by decide) ?_
  obtain ⟨r3_, σ3, hσ3, hf⟩ := fcall_some hf
  refine fl_i hS (fl_runV (As := [.int v2, .int (0 : Int32)]) (rest := [.ref (Γ.1 164)]) C hP rfl (Nat.le_of_ble_eq_true rfl) rfl (m_X8_of C.2.2.2.2.2.2.2.2 l  hσ3) (fgV tw_1118 tw_1120 tw_43 tw_75 tw_1121) hd_X8_of ⟨rfl, rfl, Nat.le_of_ble_eq_true rfl, Nat.le_of_ble_eq_true rfl⟩ rfl hl.1 rfl (Nat.le_of_ble_eq_true rfl) (kd kX8_kindOf_0 56 rfl)) (fun H locs hP hS => ?_)
  refine lv_aload_n C.1 C.2.1 (kd kX8_kindOf_0 57 rfl) rfl (lv_at hl 1 rfl) ?_
  refine lv_iload_n C.1 C.2.1 (kd kX8_kindOf_0 58 rfl) rfl (lv_at hl 2 rfl) ?_
  refine lv_iconst (v := (1 : Int32)) C.1 C.2.1 (kd kX8_kindOf_0 59 rfl) (by decide) ?_
  obtain ⟨r4_, σ4, hσ4, hf⟩ := fcall_some hf
  refine fl_i hS (fl_runV (As := [.int v2, .int (1 : Int32)]) (rest := [.int r3_, .ref (Γ.1 164)]) C hP rfl (Nat.le_of_ble_eq_true rfl) rfl (m_X8_of C.2.2.2.2.2.2.2.2 l  hσ4) (fgV tw_1118 tw_1120 tw_43 tw_75 tw_1121) hd_X8_of ⟨rfl, rfl, Nat.le_of_ble_eq_true rfl, Nat.le_of_ble_eq_true rfl⟩ rfl hl.1 rfl (Nat.le_of_ble_eq_true rfl) (kd kX8_kindOf_1 0 rfl)) (fun H locs hP hS => ?_)
  refine lv_iload_n C.1 C.2.1 (kd kX8_kindOf_1 1 rfl) rfl (lv_at hl 3 rfl) ?_
  obtain ⟨r5_, σ5, hσ5, hf⟩ := fcall_some hf
  refine fl_i hS (fl_runV (As := [.int r3_, .int r4_, .int v3]) (rest := []) C hP rfl (Nat.le_of_ble_eq_true rfl) rfl (m_X8_isDeep C.2.2.2.2.2.2.2.2 l  hσ5) (fgV tw_1130 tw_1132 tw_46 tw_75 tw_1133) hd_X8_isDeep ⟨rfl, rfl, Nat.le_of_ble_eq_true rfl, Nat.le_of_ble_eq_true rfl⟩ rfl hl.1 rfl (Nat.le_of_ble_eq_true rfl) (kd kX8_kindOf_1 2 rfl)) (fun H locs hP hS => ?_)
  refine lv_if_eq (tgt := 107) C.1 C.2.1 (kd kX8_kindOf_1 3 rfl) (by decide) (fun q => ?_) (fun q => ?_)
  · have hf := fif_pos q hf
    refine lv_iconst (v := (2 : Int32)) C.1 C.2.1 (kd kX8_kindOf_1 6 rfl) (by decide) ?_
    exact fl_iret C hP hS hf (kd kX8_kindOf_1 7 rfl)
  have hf := fif_neg q hf
  refine lv_iconst (v := (1 : Int32)) C.1 C.2.1 (kd kX8_kindOf_1 4 rfl) (by decide) ?_
  refine lv_goto (tgt := 108) C.1 C.2.1 (kd kX8_kindOf_1 5 rfl) (by decide) ?_
  exact fl_iret C hP hS hf (kd kX8_kindOf_1 7 rfl)
def f_X8_kindOf (x1 : Int32) (σ : fS) : Option (Int32 × fS) := fcall (f_X8_connectionOf x1 (0 : Int32) σ) (fun r1_ σ1 => fcall (f_X8_connectionOf x1 (1 : Int32) σ1) (fun r2_ σ2 => fb r1_ 12 ((if (σ2 173 r1_.toNatClampNeg) = 0 then fcall (f_X8_of r1_ (3 : Int32) σ2) (fun r3_ σ3 => (if r3_ < (r2_ + (10 : Int32)) then fcall (f_X8_of r1_ (3 : Int32) σ3) (fun r4_ σ4 => fcall (f_X8_connectionOf x1 (2 : Int32) σ4) (fun r5_ σ5 => (if (r4_ + r5_) < (r2_ + (10 : Int32)) then f_X8_kindOf_b62 (r1_) ((r2_ + (10 : Int32))) ((0 : Int32)) σ5 else f_X8_kindOf_b62 (r1_) ((r2_ + (10 : Int32))) ((1 : Int32)) σ5))) else some ((0 : Int32), σ3))) else some ((2 : Int32), σ2)))))
set_option maxRecDepth 100000 in
set_option maxHeartbeats 4000000 in
theorem m_X8_kindOf {Γ : fGm} (hI : fI Γ) (l : Launch) {x1 : Int32} {σ : fS} {r : Int32} {σ' : fS} (hf : f_X8_kindOf x1 σ = some (r, σ')) : Met l yX8_kindOf (.code yX8_kindOf cX8_kindOf 5 (some .int) :: lw_g) ({ frames := 4, cells := 0, slots := 0, locals := 90 } : Room) (fPre Γ [.ref (Γ.1 164), .int x1] σ) (fQi Γ r σ') 0 0 (fAd Γ) := by
  refine fl_enter (own := RX8) hI (by decide +kernel) rfl (Nat.le_of_ble_eq_true rfl) ?_
  intro p e s m args below meth c ls C hl hP hS
  have hl : lv_has ls 5 [(0, .ref (Γ.1 164)), (1, .int x1)] := hl
  obtain ⟨H, hH⟩ : ∃ H, H = s.heap := ⟨_, rfl⟩
  obtain ⟨locs, hL⟩ : ∃ L : List Loc, L = [] := ⟨_, rfl⟩
  have hP : fH Γ σ H := by rw [hH]; exact hP
  have hS : va_S (fAd Γ) s.heap H locs := by rw [hH, hL]; exact hS
  suffices hw : W p l e ({ frames := 4, cells := 0, slots := 0, locals := 90 } : Room) s m args below meth c H locs 0 0 (MQ below (fQi Γ r σ') args s 0 0 (fAd Γ)) (F0 m 0 ls []) by rw [hH, hL] at hw; exact hw
  unfold f_X8_kindOf at hf
  refine lv_aload_n C.1 C.2.1 (kd kX8_kindOf_0 0 rfl) rfl (lv_at hl 0 rfl) ?_
  refine lv_iload_n C.1 C.2.1 (kd kX8_kindOf_0 1 rfl) rfl (lv_at hl 1 rfl) ?_
  refine lv_iconst (v := (0 : Int32)) C.1 C.2.1 (kd kX8_kindOf_0 2 rfl) (by decide) ?_
  obtain ⟨r1_, σ1, hσ1, hf⟩ := fcall_some hf
  refine fl_i hS (fl_runV (As := [.int x1, .int (0 : Int32)]) (rest := []) C hP rfl (Nat.le_of_ble_eq_true rfl) rfl (m_X8_connectionOf C.2.2.2.2.2.2.2.2 l  hσ1) (fgV tw_1155 tw_1157 tw_52 tw_75 tw_1158) hd_X8_connectionOf ⟨rfl, rfl, Nat.le_of_ble_eq_true rfl, Nat.le_of_ble_eq_true rfl⟩ rfl hl.1 rfl (Nat.le_of_ble_eq_true rfl) (kd kX8_kindOf_0 3 rfl)) (fun H locs hP hS => ?_)
  refine lv_istore_n (lv' := [(2, .int r1_), (0, .ref (Γ.1 164)), (1, .int x1)]) C.1 C.2.1 (kd kX8_kindOf_0 4 rfl) rfl hl (Nat.le_of_ble_eq_true rfl) rfl (fun ls hl => ?_)
  refine lv_aload_n C.1 C.2.1 (kd kX8_kindOf_0 5 rfl) rfl (lv_at hl 1 rfl) ?_
  refine lv_iload_n C.1 C.2.1 (kd kX8_kindOf_0 6 rfl) rfl (lv_at hl 2 rfl) ?_
  refine lv_iconst (v := (1 : Int32)) C.1 C.2.1 (kd kX8_kindOf_0 7 rfl) (by decide) ?_
  obtain ⟨r2_, σ2, hσ2, hf⟩ := fcall_some hf
  refine fl_i hS (fl_runV (As := [.int x1, .int (1 : Int32)]) (rest := []) C hP rfl (Nat.le_of_ble_eq_true rfl) rfl (m_X8_connectionOf C.2.2.2.2.2.2.2.2 l  hσ2) (fgV tw_1155 tw_1157 tw_52 tw_75 tw_1158) hd_X8_connectionOf ⟨rfl, rfl, Nat.le_of_ble_eq_true rfl, Nat.le_of_ble_eq_true rfl⟩ rfl hl.1 rfl (Nat.le_of_ble_eq_true rfl) (kd kX8_kindOf_0 8 rfl)) (fun H locs hP hS => ?_)
  refine lv_bipush (v := (10 : Int32)) C.1 C.2.1 (kd kX8_kindOf_0 9 rfl) (by decide) ?_
  refine lv_iadd C.1 C.2.1 (kd kX8_kindOf_0 10 rfl) ?_
  refine lv_istore_n (lv' := [(3, .int (r2_ + (10 : Int32))), (2, .int r1_), (0, .ref (Γ.1 164)), (1, .int x1)]) C.1 C.2.1 (kd kX8_kindOf_0 11 rfl) rfl hl (Nat.le_of_ble_eq_true rfl) rfl (fun ls hl => ?_)
  refine lv_aload_n C.1 C.2.1 (kd kX8_kindOf_0 12 rfl) rfl (lv_at hl 2 rfl) ?_
  refine fl_get (j := 14) (v := .ref (Γ.1 173)) C hP rfl (Nat.le_of_ble_eq_true rfl) rfl inX8 (Nat.le_of_ble_eq_true rfl) tw_876 rfl (kd kX8_kindOf_0 13 rfl) ?_
  refine lv_iload_n C.1 C.2.1 (kd kX8_kindOf_0 14 rfl) rfl (lv_at hl 1 rfl) ?_
  obtain ⟨hq, hf⟩ := fb_some hf
  refine fl_iald C hP rfl hq (kd kX8_kindOf_0 15 rfl) ?_
  refine lv_if_eq (tgt := 28) C.1 C.2.1 (kd kX8_kindOf_0 16 rfl) (by decide) (fun q => ?_) (fun q => ?_)
  · have hf := fif_pos q hf
    refine lv_iload_n C.1 C.2.1 (kd kX8_kindOf_0 19 rfl) rfl (lv_at hl 0 rfl) ?_
    refine lv_aload_n C.1 C.2.1 (kd kX8_kindOf_0 20 rfl) rfl (lv_at hl 2 rfl) ?_
    refine lv_iload_n C.1 C.2.1 (kd kX8_kindOf_0 21 rfl) rfl (lv_at hl 1 rfl) ?_
    refine lv_iconst (v := (3 : Int32)) C.1 C.2.1 (kd kX8_kindOf_0 22 rfl) (by decide) ?_
    obtain ⟨r3_, σ3, hσ3, hf⟩ := fcall_some hf
    refine fl_i hS (fl_runV (As := [.int r1_, .int (3 : Int32)]) (rest := [.int (r2_ + (10 : Int32))]) C hP rfl (Nat.le_of_ble_eq_true rfl) rfl (m_X8_of C.2.2.2.2.2.2.2.2 l  hσ3) (fgV tw_1118 tw_1120 tw_43 tw_75 tw_1121) hd_X8_of ⟨rfl, rfl, Nat.le_of_ble_eq_true rfl, Nat.le_of_ble_eq_true rfl⟩ rfl hl.1 rfl (Nat.le_of_ble_eq_true rfl) (kd kX8_kindOf_0 23 rfl)) (fun H locs hP hS => ?_)
    refine lv_icmp_gt (tgt := 40) C.1 C.2.1 (kd kX8_kindOf_0 24 rfl) (by decide) (fun q => ?_) (fun q => ?_)
    · have hf := fif_pos q hf
      refine lv_iload_n C.1 C.2.1 (kd kX8_kindOf_0 27 rfl) rfl (lv_at hl 0 rfl) ?_
      refine lv_aload_n C.1 C.2.1 (kd kX8_kindOf_0 28 rfl) rfl (lv_at hl 2 rfl) ?_
      refine lv_iload_n C.1 C.2.1 (kd kX8_kindOf_0 29 rfl) rfl (lv_at hl 1 rfl) ?_
      refine lv_iconst (v := (3 : Int32)) C.1 C.2.1 (kd kX8_kindOf_0 30 rfl) (by decide) ?_
      obtain ⟨r4_, σ4, hσ4, hf⟩ := fcall_some hf
      refine fl_i hS (fl_runV (As := [.int r1_, .int (3 : Int32)]) (rest := [.int (r2_ + (10 : Int32))]) C hP rfl (Nat.le_of_ble_eq_true rfl) rfl (m_X8_of C.2.2.2.2.2.2.2.2 l  hσ4) (fgV tw_1118 tw_1120 tw_43 tw_75 tw_1121) hd_X8_of ⟨rfl, rfl, Nat.le_of_ble_eq_true rfl, Nat.le_of_ble_eq_true rfl⟩ rfl hl.1 rfl (Nat.le_of_ble_eq_true rfl) (kd kX8_kindOf_0 31 rfl)) (fun H locs hP hS => ?_)
      refine lv_aload_n C.1 C.2.1 (kd kX8_kindOf_0 32 rfl) rfl (lv_at hl 2 rfl) ?_
      refine lv_iload_n C.1 C.2.1 (kd kX8_kindOf_0 33 rfl) rfl (lv_at hl 3 rfl) ?_
      refine lv_iconst (v := (2 : Int32)) C.1 C.2.1 (kd kX8_kindOf_0 34 rfl) (by decide) ?_
      obtain ⟨r5_, σ5, hσ5, hf⟩ := fcall_some hf
      refine fl_i hS (fl_runV (As := [.int x1, .int (2 : Int32)]) (rest := [.int r4_, .int (r2_ + (10 : Int32))]) C hP rfl (Nat.le_of_ble_eq_true rfl) rfl (m_X8_connectionOf C.2.2.2.2.2.2.2.2 l  hσ5) (fgV tw_1155 tw_1157 tw_52 tw_75 tw_1158) hd_X8_connectionOf ⟨rfl, rfl, Nat.le_of_ble_eq_true rfl, Nat.le_of_ble_eq_true rfl⟩ rfl hl.1 rfl (Nat.le_of_ble_eq_true rfl) (kd kX8_kindOf_0 35 rfl)) (fun H locs hP hS => ?_)
      refine lv_iadd C.1 C.2.1 (kd kX8_kindOf_0 36 rfl) ?_
      refine lv_icmp_gt (tgt := 61) C.1 C.2.1 (kd kX8_kindOf_0 37 rfl) (by decide) (fun q => ?_) (fun q => ?_)
      · have hf := fif_pos q hf
        refine lv_iconst (v := (0 : Int32)) C.1 C.2.1 (kd kX8_kindOf_0 40 rfl) (by decide) ?_
        exact w_X8_kindOf_b62 C (r1_) ((r2_ + (10 : Int32))) ((0 : Int32)) σ5 H locs ls hf hP hS (lv_sub hl [2, 1, 0] rfl)
      have hf := fif_neg q hf
      refine lv_iconst (v := (1 : Int32)) C.1 C.2.1 (kd kX8_kindOf_0 38 rfl) (by decide) ?_
      refine lv_goto (tgt := 62) C.1 C.2.1 (kd kX8_kindOf_0 39 rfl) (by decide) ?_
      exact w_X8_kindOf_b62 C (r1_) ((r2_ + (10 : Int32))) ((1 : Int32)) σ5 H locs ls hf hP hS (lv_sub hl [2, 1, 0] rfl)
    have hf := fif_neg q hf
    refine lv_iconst (v := (0 : Int32)) C.1 C.2.1 (kd kX8_kindOf_0 25 rfl) (by decide) ?_
    exact fl_iret C hP hS hf (kd kX8_kindOf_0 26 rfl)
  have hf := fif_neg q hf
  refine lv_iconst (v := (2 : Int32)) C.1 C.2.1 (kd kX8_kindOf_0 17 rfl) (by decide) ?_
  exact fl_iret C hP hS hf (kd kX8_kindOf_0 18 rfl)
def f_X8_decides_b242 (K161 : Int32 → Int32 → fS → Option (fS)) (v1 : Int32) (v5 : Int32) (σ : fS) : Option (fS) := K161 (v1) ((v5 + (1 : Int32))) σ
set_option maxRecDepth 100000 in
set_option maxHeartbeats 4000000 in
theorem w_X8_decides_b242 {σ' : fS} {K161 : Int32 → Int32 → fS → Option (fS)}  (C : fC Γ p s m args meth c cX8_decides none RX8 7) (hK161 : ∀ (v1 : Int32) (v5 : Int32) (σ : fS) (H : Heap) (locs : List Loc) (ls : Array Slot), K161 v1 v5 σ = some σ' → fH Γ σ H → va_S (fAd Γ) s.heap H locs → lv_has ls 7 [(0, .ref (Γ.1 164)), (1, .int v1), (5, .int v5)] → W p l e ({ frames := 5, cells := 0, slots := 0, locals := 114 } : Room) s m args below meth c H locs 0 0 (MQ below (fQv Γ σ') args s 0 0 (fAd Γ)) (F0 m 161 ls [])) : ∀ (v1 : Int32) (v5 : Int32) (σ : fS) (H : Heap) (locs : List Loc) (ls : Array Slot), f_X8_decides_b242 K161 v1 v5 σ = some σ' → fH Γ σ H → va_S (fAd Γ) s.heap H locs → lv_has ls 7 [(0, .ref (Γ.1 164)), (1, .int v1), (5, .int v5)] → W p l e ({ frames := 5, cells := 0, slots := 0, locals := 114 } : Room) s m args below meth c H locs 0 0 (MQ below (fQv Γ σ') args s 0 0 (fAd Γ)) (F0 m 242 ls []) := by
  intro v1 v5 σ H locs ls hf hP hS hl
  unfold f_X8_decides_b242 at hf
  refine lv_iinc (v := (v5 + (1 : Int32))) (lv' := [(5, .int (v5 + (1 : Int32))), (0, .ref (Γ.1 164)), (1, .int v1)]) C.1 C.2.1 (kd kX8_decides_2 26 rfl) hl (k := 2) rfl rfl (Nat.le_of_ble_eq_true rfl) rfl (fun ls hl => ?_)
  refine lv_goto (tgt := 161) C.1 C.2.1 (kd kX8_decides_2 27 rfl) (by decide) ?_
  exact hK161 (v1) ((v5 + (1 : Int32))) σ H locs ls hf hP hS (lv_sub hl [1, 2, 0] rfl)
def f_X8_decides_b241 (K161 : Int32 → Int32 → fS → Option (fS)) (v1 : Int32) (v5 : Int32) (s0 : Int32) (s1 : Int32) (σ : fS) : Option (fS) := fb s1 12 (fL (fu σ 175 s1.toNatClampNeg s0) (fun σ1 => f_X8_decides_b242 K161 (v1) (v5) σ1))
set_option maxRecDepth 100000 in
set_option maxHeartbeats 4000000 in
theorem w_X8_decides_b241 {σ' : fS} {K161 : Int32 → Int32 → fS → Option (fS)}  (C : fC Γ p s m args meth c cX8_decides none RX8 7) (hK161 : ∀ (v1 : Int32) (v5 : Int32) (σ : fS) (H : Heap) (locs : List Loc) (ls : Array Slot), K161 v1 v5 σ = some σ' → fH Γ σ H → va_S (fAd Γ) s.heap H locs → lv_has ls 7 [(0, .ref (Γ.1 164)), (1, .int v1), (5, .int v5)] → W p l e ({ frames := 5, cells := 0, slots := 0, locals := 114 } : Room) s m args below meth c H locs 0 0 (MQ below (fQv Γ σ') args s 0 0 (fAd Γ)) (F0 m 161 ls [])) : ∀ (v1 : Int32) (v5 : Int32) (s0 : Int32) (s1 : Int32) (σ : fS) (H : Heap) (locs : List Loc) (ls : Array Slot), f_X8_decides_b241 K161 v1 v5 s0 s1 σ = some σ' → fH Γ σ H → va_S (fAd Γ) s.heap H locs → lv_has ls 7 [(0, .ref (Γ.1 164)), (1, .int v1), (5, .int v5)] → W p l e ({ frames := 5, cells := 0, slots := 0, locals := 114 } : Room) s m args below meth c H locs 0 0 (MQ below (fQv Γ σ') args s 0 0 (fAd Γ)) (F0 m 241 ls [.int s0, .int s1, .ref (Γ.1 175)]) := by
  intro v1 v5 s0 s1 σ H locs ls hf hP hS hl
  unfold f_X8_decides_b241 at hf
  obtain ⟨hq, hf⟩ := fb_some hf
  obtain ⟨σ1, eσ1, hf⟩ := fL_some hf
  refine fl_iast C hP hS rfl hq (kd kX8_decides_2 25 rfl) (fun H locs hP hS => ?_)
  have hP : fH Γ σ1 H := by rw [eσ1]; exact hP
  exact w_X8_decides_b242 C hK161 (v1) (v5) σ1 H locs ls hf hP hS (lv_sub hl [0, 1, 2] rfl)
def f_X8_decides_b161 : Nat → Int32 → Int32 → fS → Option (fS)
  | 0, _, _, _ => none
  | n_ + 1, v1, v5, σ => fb (244 : Int32) 277 ((if (σ 165 (244 : Int32).toNatClampNeg) ≤ v5 then some σ else fcall (f_X8_connectionOf v5 (0 : Int32) σ) (fun r1_ σ1 => (if r1_ = v1 then fcall (f_X8_kindOf v5 σ1) (fun r2_ σ2 => (if r2_ = (1 : Int32) then fcall (f_X8_connectionOf v5 (1 : Int32) σ2) (fun r3_ σ3 => fcall (f_X8_of v1 (3 : Int32) σ3) (fun r4_ σ4 => fb v1 12 ((if ((r3_ + (10 : Int32)) - r4_) ≤ (σ4 175 v1.toNatClampNeg) then fb v1 12 (f_X8_decides_b241 (fun v1 v5 σ => f_X8_decides_b161 n_ v1 v5 σ) (v1) (v5) ((σ4 175 v1.toNatClampNeg)) (v1) σ4) else f_X8_decides_b241 (fun v1 v5 σ => f_X8_decides_b161 n_ v1 v5 σ) (v1) (v5) (((r3_ + (10 : Int32)) - r4_)) (v1) σ4)))) else f_X8_decides_b242 (fun v1 v5 σ => f_X8_decides_b161 n_ v1 v5 σ) (v1) (v5) σ2)) else f_X8_decides_b242 (fun v1 v5 σ => f_X8_decides_b161 n_ v1 v5 σ) (v1) (v5) σ1))))
set_option maxRecDepth 100000 in
set_option maxHeartbeats 4000000 in
theorem w_X8_decides_b161 {σ' : fS}  (C : fC Γ p s m args meth c cX8_decides none RX8 7) : ∀ (n_ : Nat) (v1 : Int32) (v5 : Int32) (σ : fS) (H : Heap) (locs : List Loc) (ls : Array Slot), f_X8_decides_b161 n_ v1 v5 σ = some σ' → fH Γ σ H → va_S (fAd Γ) s.heap H locs → lv_has ls 7 [(0, .ref (Γ.1 164)), (1, .int v1), (5, .int v5)] → W p l e ({ frames := 5, cells := 0, slots := 0, locals := 114 } : Room) s m args below meth c H locs 0 0 (MQ below (fQv Γ σ') args s 0 0 (fAd Γ)) (F0 m 161 ls []) := by
  intro n_
  induction n_ with
  | zero =>
    intro v1 v5 σ H locs ls hf
    cases hf
  | succ n_ ih =>
    intro v1 v5 σ H locs ls hf hP hS hl
    have hf : fb (244 : Int32) 277 ((if (σ 165 (244 : Int32).toNatClampNeg) ≤ v5 then some σ else fcall (f_X8_connectionOf v5 (0 : Int32) σ) (fun r1_ σ1 => (if r1_ = v1 then fcall (f_X8_kindOf v5 σ1) (fun r2_ σ2 => (if r2_ = (1 : Int32) then fcall (f_X8_connectionOf v5 (1 : Int32) σ2) (fun r3_ σ3 => fcall (f_X8_of v1 (3 : Int32) σ3) (fun r4_ σ4 => fb v1 12 ((if ((r3_ + (10 : Int32)) - r4_) ≤ (σ4 175 v1.toNatClampNeg) then fb v1 12 (f_X8_decides_b241 (fun v1 v5 σ => f_X8_decides_b161 n_ v1 v5 σ) (v1) (v5) ((σ4 175 v1.toNatClampNeg)) (v1) σ4) else f_X8_decides_b241 (fun v1 v5 σ => f_X8_decides_b161 n_ v1 v5 σ) (v1) (v5) (((r3_ + (10 : Int32)) - r4_)) (v1) σ4)))) else f_X8_decides_b242 (fun v1 v5 σ => f_X8_decides_b161 n_ v1 v5 σ) (v1) (v5) σ2)) else f_X8_decides_b242 (fun v1 v5 σ => f_X8_decides_b161 n_ v1 v5 σ) (v1) (v5) σ1)))) = some σ' := hf
    have hK161 := ih
    refine lv_iload C.1 C.2.1 (kd kX8_decides_1 41 rfl) (lv_at hl 2 rfl) ?_
    refine lv_aload_n C.1 C.2.1 (kd kX8_decides_1 42 rfl) rfl (lv_at hl 0 rfl) ?_
    refine fl_get (j := 0) (v := .ref (Γ.1 165)) C hP rfl (Nat.le_of_ble_eq_true rfl) rfl inX8 (Nat.le_of_ble_eq_true rfl) tw_862 rfl (kd kX8_decides_1 43 rfl) ?_
    refine lv_sipush (v := (244 : Int32)) C.1 C.2.1 (kd kX8_decides_1 44 rfl) (by decide) ?_
    obtain ⟨hq, hf⟩ := fb_some hf
    refine fl_iald C hP rfl hq (kd kX8_decides_1 45 rfl) ?_
    refine lv_icmp_ge (tgt := 248) C.1 C.2.1 (kd kX8_decides_1 46 rfl) (by decide) (fun q => ?_) (fun q => ?_)
    · have hf := fif_pos q hf
      exact fl_vret C hP hS hf (kd kX8_decides_2 28 rfl)
    have hf := fif_neg q hf
    refine lv_aload_n C.1 C.2.1 (kd kX8_decides_1 47 rfl) rfl (lv_at hl 0 rfl) ?_
    refine lv_iload C.1 C.2.1 (kd kX8_decides_1 48 rfl) (lv_at hl 2 rfl) ?_
    refine lv_iconst (v := (0 : Int32)) C.1 C.2.1 (kd kX8_decides_1 49 rfl) (by decide) ?_
    obtain ⟨r1_, σ1, hσ1, hf⟩ := fcall_some hf
    refine fl_i hS (fl_runV (As := [.int v5, .int (0 : Int32)]) (rest := []) C hP rfl (Nat.le_of_ble_eq_true rfl) rfl (m_X8_connectionOf C.2.2.2.2.2.2.2.2 l  hσ1) (fgV tw_1155 tw_1157 tw_52 tw_75 tw_1158) hd_X8_connectionOf ⟨rfl, rfl, Nat.le_of_ble_eq_true rfl, Nat.le_of_ble_eq_true rfl⟩ rfl hl.1 rfl (Nat.le_of_ble_eq_true rfl) (kd kX8_decides_1 50 rfl)) (fun H locs hP hS => ?_)
    refine lv_iload_n C.1 C.2.1 (kd kX8_decides_1 51 rfl) rfl (lv_at hl 1 rfl) ?_
    refine lv_icmp_ne (tgt := 242) C.1 C.2.1 (kd kX8_decides_1 52 rfl) (by decide) (fun q => ?_) (fun q => ?_)
    · have hf := fif_neg q hf
      exact w_X8_decides_b242 C hK161 (v1) (v5) σ1 H locs ls hf hP hS (lv_sub hl [0, 1, 2] rfl)
    have hf := fif_pos q hf
    refine lv_aload_n C.1 C.2.1 (kd kX8_decides_1 53 rfl) rfl (lv_at hl 0 rfl) ?_
    refine lv_iload C.1 C.2.1 (kd kX8_decides_1 54 rfl) (lv_at hl 2 rfl) ?_
    obtain ⟨r2_, σ2, hσ2, hf⟩ := fcall_some hf
    refine fl_i hS (fl_runV (As := [.int v5]) (rest := []) C hP rfl (Nat.le_of_ble_eq_true rfl) rfl (m_X8_kindOf C.2.2.2.2.2.2.2.2 l  hσ2) (fgV tw_1159 tw_1161 tw_53 tw_75 tw_1162) hd_X8_kindOf ⟨rfl, rfl, Nat.le_of_ble_eq_true rfl, Nat.le_of_ble_eq_true rfl⟩ rfl hl.1 rfl (Nat.le_of_ble_eq_true rfl) (kd kX8_decides_1 55 rfl)) (fun H locs hP hS => ?_)
    refine lv_iconst (v := (1 : Int32)) C.1 C.2.1 (kd kX8_decides_1 56 rfl) (by decide) ?_
    refine lv_icmp_ne (tgt := 242) C.1 C.2.1 (kd kX8_decides_1 57 rfl) (by decide) (fun q => ?_) (fun q => ?_)
    · have hf := fif_neg q hf
      exact w_X8_decides_b242 C hK161 (v1) (v5) σ2 H locs ls hf hP hS (lv_sub hl [0, 1, 2] rfl)
    have hf := fif_pos q hf
    refine lv_aload_n C.1 C.2.1 (kd kX8_decides_1 58 rfl) rfl (lv_at hl 0 rfl) ?_
    refine lv_iload C.1 C.2.1 (kd kX8_decides_1 59 rfl) (lv_at hl 2 rfl) ?_
    refine lv_iconst (v := (1 : Int32)) C.1 C.2.1 (kd kX8_decides_2 0 rfl) (by decide) ?_
    obtain ⟨r3_, σ3, hσ3, hf⟩ := fcall_some hf
    refine fl_i hS (fl_runV (As := [.int v5, .int (1 : Int32)]) (rest := []) C hP rfl (Nat.le_of_ble_eq_true rfl) rfl (m_X8_connectionOf C.2.2.2.2.2.2.2.2 l  hσ3) (fgV tw_1155 tw_1157 tw_52 tw_75 tw_1158) hd_X8_connectionOf ⟨rfl, rfl, Nat.le_of_ble_eq_true rfl, Nat.le_of_ble_eq_true rfl⟩ rfl hl.1 rfl (Nat.le_of_ble_eq_true rfl) (kd kX8_decides_2 1 rfl)) (fun H locs hP hS => ?_)
    refine lv_bipush (v := (10 : Int32)) C.1 C.2.1 (kd kX8_decides_2 2 rfl) (by decide) ?_
    refine lv_iadd C.1 C.2.1 (kd kX8_decides_2 3 rfl) ?_
    refine lv_aload_n C.1 C.2.1 (kd kX8_decides_2 4 rfl) rfl (lv_at hl 0 rfl) ?_
    refine lv_iload_n C.1 C.2.1 (kd kX8_decides_2 5 rfl) rfl (lv_at hl 1 rfl) ?_
    refine lv_iconst (v := (3 : Int32)) C.1 C.2.1 (kd kX8_decides_2 6 rfl) (by decide) ?_
    obtain ⟨r4_, σ4, hσ4, hf⟩ := fcall_some hf
    refine fl_i hS (fl_runV (As := [.int v1, .int (3 : Int32)]) (rest := [.int (r3_ + (10 : Int32))]) C hP rfl (Nat.le_of_ble_eq_true rfl) rfl (m_X8_of C.2.2.2.2.2.2.2.2 l  hσ4) (fgV tw_1118 tw_1120 tw_43 tw_75 tw_1121) hd_X8_of ⟨rfl, rfl, Nat.le_of_ble_eq_true rfl, Nat.le_of_ble_eq_true rfl⟩ rfl hl.1 rfl (Nat.le_of_ble_eq_true rfl) (kd kX8_decides_2 7 rfl)) (fun H locs hP hS => ?_)
    refine lv_isub C.1 C.2.1 (kd kX8_decides_2 8 rfl) ?_
    refine lv_istore (lv' := [(6, .int ((r3_ + (10 : Int32)) - r4_)), (0, .ref (Γ.1 164)), (1, .int v1), (5, .int v5)]) C.1 C.2.1 (kd kX8_decides_2 9 rfl) hl (Nat.le_of_ble_eq_true rfl) rfl (fun ls hl => ?_)
    refine lv_aload_n C.1 C.2.1 (kd kX8_decides_2 10 rfl) rfl (lv_at hl 1 rfl) ?_
    refine fl_get (j := 16) (v := .ref (Γ.1 175)) C hP rfl (Nat.le_of_ble_eq_true rfl) rfl inX8 (Nat.le_of_ble_eq_true rfl) tw_878 rfl (kd kX8_decides_2 11 rfl) ?_
    refine lv_iload_n C.1 C.2.1 (kd kX8_decides_2 12 rfl) rfl (lv_at hl 2 rfl) ?_
    refine lv_iload C.1 C.2.1 (kd kX8_decides_2 13 rfl) (lv_at hl 0 rfl) ?_
    refine lv_aload_n C.1 C.2.1 (kd kX8_decides_2 14 rfl) rfl (lv_at hl 1 rfl) ?_
    refine fl_get (j := 16) (v := .ref (Γ.1 175)) C hP rfl (Nat.le_of_ble_eq_true rfl) rfl inX8 (Nat.le_of_ble_eq_true rfl) tw_878 rfl (kd kX8_decides_2 15 rfl) ?_
    refine lv_iload_n C.1 C.2.1 (kd kX8_decides_2 16 rfl) rfl (lv_at hl 2 rfl) ?_
    obtain ⟨hq, hf⟩ := fb_some hf
    refine fl_iald C hP rfl hq (kd kX8_decides_2 17 rfl) ?_
    refine lv_icmp_le (tgt := 235) C.1 C.2.1 (kd kX8_decides_2 18 rfl) (by decide) (fun q => ?_) (fun q => ?_)
    · have hf := fif_pos q hf
      refine lv_aload_n C.1 C.2.1 (kd kX8_decides_2 21 rfl) rfl (lv_at hl 1 rfl) ?_
      refine fl_get (j := 16) (v := .ref (Γ.1 175)) C hP rfl (Nat.le_of_ble_eq_true rfl) rfl inX8 (Nat.le_of_ble_eq_true rfl) tw_878 rfl (kd kX8_decides_2 22 rfl) ?_
      refine lv_iload_n C.1 C.2.1 (kd kX8_decides_2 23 rfl) rfl (lv_at hl 2 rfl) ?_
      obtain ⟨hq, hf⟩ := fb_some hf
      refine fl_iald C hP rfl hq (kd kX8_decides_2 24 rfl) ?_
      exact w_X8_decides_b241 C hK161 (v1) (v5) ((σ4 175 v1.toNatClampNeg)) (v1) σ4 H locs ls hf hP hS (lv_sub hl [1, 2, 3] rfl)
    have hf := fif_neg q hf
    refine lv_iload C.1 C.2.1 (kd kX8_decides_2 19 rfl) (lv_at hl 0 rfl) ?_
    refine lv_goto (tgt := 241) C.1 C.2.1 (kd kX8_decides_2 20 rfl) (by decide) ?_
    exact w_X8_decides_b241 C hK161 (v1) (v5) (((r3_ + (10 : Int32)) - r4_)) (v1) σ4 H locs ls hf hP hS (lv_sub hl [1, 2, 3] rfl)
def f_X8_decides_b158 (v1 : Int32) (σ : fS) : Option (fS) := f_X8_decides_b161 fN (v1) ((0 : Int32)) σ
set_option maxRecDepth 100000 in
set_option maxHeartbeats 4000000 in
theorem w_X8_decides_b158 {σ' : fS}  (C : fC Γ p s m args meth c cX8_decides none RX8 7) : ∀ (v1 : Int32) (σ : fS) (H : Heap) (locs : List Loc) (ls : Array Slot), f_X8_decides_b158 v1 σ = some σ' → fH Γ σ H → va_S (fAd Γ) s.heap H locs → lv_has ls 7 [(0, .ref (Γ.1 164)), (1, .int v1)] → W p l e ({ frames := 5, cells := 0, slots := 0, locals := 114 } : Room) s m args below meth c H locs 0 0 (MQ below (fQv Γ σ') args s 0 0 (fAd Γ)) (F0 m 158 ls []) := by
  intro v1 σ H locs ls hf hP hS hl
  unfold f_X8_decides_b158 at hf
  refine lv_iconst (v := (0 : Int32)) C.1 C.2.1 (kd kX8_decides_1 39 rfl) (by decide) ?_
  refine lv_istore (lv' := [(5, .int (0 : Int32)), (0, .ref (Γ.1 164)), (1, .int v1)]) C.1 C.2.1 (kd kX8_decides_1 40 rfl) hl (Nat.le_of_ble_eq_true rfl) rfl (fun ls hl => ?_)
  exact w_X8_decides_b161 C fN (v1) ((0 : Int32)) σ H locs ls hf hP hS (lv_sub hl [1, 2, 0] rfl)
def f_X8_decides (x1 : Int32) (σ : fS) : Option (fS) := fb x1 12 (fL (fu σ 175 x1.toNatClampNeg (0 : Int32)) (fun σ1 => fb x1 12 (fL (fu σ1 173 x1.toNatClampNeg (0 : Int32)) (fun σ2 => fb x1 12 (fL (fu σ2 174 x1.toNatClampNeg (-10004 : Int32)) (fun σ3 => fcall (f_X8_shallow x1 σ3) (fun r4_ σ4 => fcall (f_X8_blocker x1 (1 : Int32) σ4) (fun r5_ σ5 => fcall (f_X8_blocker x1 (0 : Int32) σ5) (fun r6_ σ6 => fcall (f_X8_of x1 (0 : Int32) σ6) (fun r7_ σ7 => fcall (f_X8_of x1 (3 : Int32) σ7) (fun r8_ σ8 => fcall (f_X8_isCalm r7_ r8_ σ8) (fun r9_ σ9 => (if r9_ = 0 then fb x1 12 (fL (fu σ9 173 x1.toNatClampNeg (1 : Int32)) (fun σ16 => fcall (f_X8_of x1 (3 : Int32) σ16) (fun r17_ σ17 => fb ((49 : Int32) + (r17_ / (60 : Int32))) 277 (fb x1 12 (fL (fu σ17 174 x1.toNatClampNeg (σ17 165 ((49 : Int32) + (r17_ / (60 : Int32))).toNatClampNeg)) (fun σ18 => f_X8_decides_b158 (x1) σ18)))))) else (if r4_ < 0 then (if r5_ < 0 then (if r6_ < 0 then f_X8_decides_b158 (x1) σ9 else fb x1 12 (fL (fu σ9 173 x1.toNatClampNeg (4 : Int32)) (fun σ10 => fb x1 12 (fL (fu σ10 174 x1.toNatClampNeg r6_) (fun σ11 => f_X8_decides_b158 (x1) σ11))))) else fb x1 12 (fL (fu σ9 173 x1.toNatClampNeg (3 : Int32)) (fun σ12 => fb x1 12 (fL (fu σ12 174 x1.toNatClampNeg r5_) (fun σ13 => f_X8_decides_b158 (x1) σ13))))) else fb x1 12 (fL (fu σ9 173 x1.toNatClampNeg (2 : Int32)) (fun σ14 => fb x1 12 (fL (fu σ14 174 x1.toNatClampNeg r4_) (fun σ15 => f_X8_decides_b158 (x1) σ15))))))))))))))))))
set_option maxRecDepth 100000 in
set_option maxHeartbeats 4000000 in
theorem m_X8_decides {Γ : fGm} (hI : fI Γ) (l : Launch) {x1 : Int32} {σ : fS} {σ' : fS} (hf : f_X8_decides x1 σ = some σ') : Met l yX8_decides (.code yX8_decides cX8_decides 7 none :: lw_g) ({ frames := 5, cells := 0, slots := 0, locals := 114 } : Room) (fPre Γ [.ref (Γ.1 164), .int x1] σ) (fQv Γ σ') 0 0 (fAd Γ) := by
  refine fl_enter (own := RX8) hI (by decide +kernel) rfl (Nat.le_of_ble_eq_true rfl) ?_
  intro p e s m args below meth c ls C hl hP hS
  have hl : lv_has ls 7 [(0, .ref (Γ.1 164)), (1, .int x1)] := hl
  obtain ⟨H, hH⟩ : ∃ H, H = s.heap := ⟨_, rfl⟩
  obtain ⟨locs, hL⟩ : ∃ L : List Loc, L = [] := ⟨_, rfl⟩
  have hP : fH Γ σ H := by rw [hH]; exact hP
  have hS : va_S (fAd Γ) s.heap H locs := by rw [hH, hL]; exact hS
  suffices hw : W p l e ({ frames := 5, cells := 0, slots := 0, locals := 114 } : Room) s m args below meth c H locs 0 0 (MQ below (fQv Γ σ') args s 0 0 (fAd Γ)) (F0 m 0 ls []) by rw [hH, hL] at hw; exact hw
  unfold f_X8_decides at hf
  refine lv_aload_n C.1 C.2.1 (kd kX8_decides_0 0 rfl) rfl (lv_at hl 0 rfl) ?_
  refine fl_get (j := 16) (v := .ref (Γ.1 175)) C hP rfl (Nat.le_of_ble_eq_true rfl) rfl inX8 (Nat.le_of_ble_eq_true rfl) tw_878 rfl (kd kX8_decides_0 1 rfl) ?_
  refine lv_iload_n C.1 C.2.1 (kd kX8_decides_0 2 rfl) rfl (lv_at hl 1 rfl) ?_
  refine lv_iconst (v := (0 : Int32)) C.1 C.2.1 (kd kX8_decides_0 3 rfl) (by decide) ?_
  obtain ⟨hq, hf⟩ := fb_some hf
  obtain ⟨σ1, eσ1, hf⟩ := fL_some hf
  refine fl_iast C hP hS rfl hq (kd kX8_decides_0 4 rfl) (fun H locs hP hS => ?_)
  have hP : fH Γ σ1 H := by rw [eσ1]; exact hP
  refine lv_aload_n C.1 C.2.1 (kd kX8_decides_0 5 rfl) rfl (lv_at hl 0 rfl) ?_
  refine fl_get (j := 14) (v := .ref (Γ.1 173)) C hP rfl (Nat.le_of_ble_eq_true rfl) rfl inX8 (Nat.le_of_ble_eq_true rfl) tw_876 rfl (kd kX8_decides_0 6 rfl) ?_
  refine lv_iload_n C.1 C.2.1 (kd kX8_decides_0 7 rfl) rfl (lv_at hl 1 rfl) ?_
  refine lv_iconst (v := (0 : Int32)) C.1 C.2.1 (kd kX8_decides_0 8 rfl) (by decide) ?_
  obtain ⟨hq, hf⟩ := fb_some hf
  obtain ⟨σ2, eσ2, hf⟩ := fL_some hf
  refine fl_iast C hP hS rfl hq (kd kX8_decides_0 9 rfl) (fun H locs hP hS => ?_)
  have hP : fH Γ σ2 H := by rw [eσ2]; exact hP
  refine lv_aload_n C.1 C.2.1 (kd kX8_decides_0 10 rfl) rfl (lv_at hl 0 rfl) ?_
  refine fl_get (j := 15) (v := .ref (Γ.1 174)) C hP rfl (Nat.le_of_ble_eq_true rfl) rfl inX8 (Nat.le_of_ble_eq_true rfl) tw_877 rfl (kd kX8_decides_0 11 rfl) ?_
  refine lv_iload_n C.1 C.2.1 (kd kX8_decides_0 12 rfl) rfl (lv_at hl 1 rfl) ?_
  refine lv_sipush (v := (-10004 : Int32)) C.1 C.2.1 (kd kX8_decides_0 13 rfl) (by decide) ?_
  obtain ⟨hq, hf⟩ := fb_some hf
  obtain ⟨σ3, eσ3, hf⟩ := fL_some hf
  refine fl_iast C hP hS rfl hq (kd kX8_decides_0 14 rfl) (fun H locs hP hS => ?_)
  have hP : fH Γ σ3 H := by rw [eσ3]; exact hP
  refine lv_aload_n C.1 C.2.1 (kd kX8_decides_0 15 rfl) rfl (lv_at hl 0 rfl) ?_
  refine lv_iload_n C.1 C.2.1 (kd kX8_decides_0 16 rfl) rfl (lv_at hl 1 rfl) ?_
  obtain ⟨r4_, σ4, hσ4, hf⟩ := fcall_some hf
  refine fl_i hS (fl_runV (As := [.int x1]) (rest := []) C hP rfl (Nat.le_of_ble_eq_true rfl) rfl (m_X8_shallow C.2.2.2.2.2.2.2.2 l  hσ4) (fgV tw_1126 tw_1128 tw_45 tw_75 tw_1129) hd_X8_shallow ⟨rfl, rfl, Nat.le_of_ble_eq_true rfl, Nat.le_of_ble_eq_true rfl⟩ rfl hl.1 rfl (Nat.le_of_ble_eq_true rfl) (kd kX8_decides_0 17 rfl)) (fun H locs hP hS => ?_)
  refine lv_istore_n (lv' := [(2, .int r4_), (0, .ref (Γ.1 164)), (1, .int x1)]) C.1 C.2.1 (kd kX8_decides_0 18 rfl) rfl hl (Nat.le_of_ble_eq_true rfl) rfl (fun ls hl => ?_)
  refine lv_aload_n C.1 C.2.1 (kd kX8_decides_0 19 rfl) rfl (lv_at hl 1 rfl) ?_
  refine lv_iload_n C.1 C.2.1 (kd kX8_decides_0 20 rfl) rfl (lv_at hl 2 rfl) ?_
  refine lv_iconst (v := (1 : Int32)) C.1 C.2.1 (kd kX8_decides_0 21 rfl) (by decide) ?_
  obtain ⟨r5_, σ5, hσ5, hf⟩ := fcall_some hf
  refine fl_i hS (fl_runV (As := [.int x1, .int (1 : Int32)]) (rest := []) C hP rfl (Nat.le_of_ble_eq_true rfl) rfl (m_X8_blocker C.2.2.2.2.2.2.2.2 l  hσ5) (fgV tw_1147 tw_1149 tw_50 tw_75 tw_1150) hd_X8_blocker ⟨rfl, rfl, Nat.le_of_ble_eq_true rfl, Nat.le_of_ble_eq_true rfl⟩ rfl hl.1 rfl (Nat.le_of_ble_eq_true rfl) (kd kX8_decides_0 22 rfl)) (fun H locs hP hS => ?_)
  refine lv_istore_n (lv' := [(3, .int r5_), (2, .int r4_), (0, .ref (Γ.1 164)), (1, .int x1)]) C.1 C.2.1 (kd kX8_decides_0 23 rfl) rfl hl (Nat.le_of_ble_eq_true rfl) rfl (fun ls hl => ?_)
  refine lv_aload_n C.1 C.2.1 (kd kX8_decides_0 24 rfl) rfl (lv_at hl 2 rfl) ?_
  refine lv_iload_n C.1 C.2.1 (kd kX8_decides_0 25 rfl) rfl (lv_at hl 3 rfl) ?_
  refine lv_iconst (v := (0 : Int32)) C.1 C.2.1 (kd kX8_decides_0 26 rfl) (by decide) ?_
  obtain ⟨r6_, σ6, hσ6, hf⟩ := fcall_some hf
  refine fl_i hS (fl_runV (As := [.int x1, .int (0 : Int32)]) (rest := []) C hP rfl (Nat.le_of_ble_eq_true rfl) rfl (m_X8_blocker C.2.2.2.2.2.2.2.2 l  hσ6) (fgV tw_1147 tw_1149 tw_50 tw_75 tw_1150) hd_X8_blocker ⟨rfl, rfl, Nat.le_of_ble_eq_true rfl, Nat.le_of_ble_eq_true rfl⟩ rfl hl.1 rfl (Nat.le_of_ble_eq_true rfl) (kd kX8_decides_0 27 rfl)) (fun H locs hP hS => ?_)
  refine lv_istore (lv' := [(4, .int r6_), (3, .int r5_), (2, .int r4_), (0, .ref (Γ.1 164)), (1, .int x1)]) C.1 C.2.1 (kd kX8_decides_0 28 rfl) hl (Nat.le_of_ble_eq_true rfl) rfl (fun ls hl => ?_)
  refine lv_aload_n C.1 C.2.1 (kd kX8_decides_0 29 rfl) rfl (lv_at hl 3 rfl) ?_
  refine lv_aload_n C.1 C.2.1 (kd kX8_decides_0 30 rfl) rfl (lv_at hl 3 rfl) ?_
  refine lv_iload_n C.1 C.2.1 (kd kX8_decides_0 31 rfl) rfl (lv_at hl 4 rfl) ?_
  refine lv_iconst (v := (0 : Int32)) C.1 C.2.1 (kd kX8_decides_0 32 rfl) (by decide) ?_
  obtain ⟨r7_, σ7, hσ7, hf⟩ := fcall_some hf
  refine fl_i hS (fl_runV (As := [.int x1, .int (0 : Int32)]) (rest := [.ref (Γ.1 164)]) C hP rfl (Nat.le_of_ble_eq_true rfl) rfl (m_X8_of C.2.2.2.2.2.2.2.2 l  hσ7) (fgV tw_1118 tw_1120 tw_43 tw_75 tw_1121) hd_X8_of ⟨rfl, rfl, Nat.le_of_ble_eq_true rfl, Nat.le_of_ble_eq_true rfl⟩ rfl hl.1 rfl (Nat.le_of_ble_eq_true rfl) (kd kX8_decides_0 33 rfl)) (fun H locs hP hS => ?_)
  refine lv_aload_n C.1 C.2.1 (kd kX8_decides_0 34 rfl) rfl (lv_at hl 3 rfl) ?_
  refine lv_iload_n C.1 C.2.1 (kd kX8_decides_0 35 rfl) rfl (lv_at hl 4 rfl) ?_
  refine lv_iconst (v := (3 : Int32)) C.1 C.2.1 (kd kX8_decides_0 36 rfl) (by decide) ?_
  obtain ⟨r8_, σ8, hσ8, hf⟩ := fcall_some hf
  refine fl_i hS (fl_runV (As := [.int x1, .int (3 : Int32)]) (rest := [.int r7_, .ref (Γ.1 164)]) C hP rfl (Nat.le_of_ble_eq_true rfl) rfl (m_X8_of C.2.2.2.2.2.2.2.2 l  hσ8) (fgV tw_1118 tw_1120 tw_43 tw_75 tw_1121) hd_X8_of ⟨rfl, rfl, Nat.le_of_ble_eq_true rfl, Nat.le_of_ble_eq_true rfl⟩ rfl hl.1 rfl (Nat.le_of_ble_eq_true rfl) (kd kX8_decides_0 37 rfl)) (fun H locs hP hS => ?_)
  obtain ⟨r9_, σ9, hσ9, hf⟩ := fcall_some hf
  refine fl_i hS (fl_runV (As := [.int r7_, .int r8_]) (rest := []) C hP rfl (Nat.le_of_ble_eq_true rfl) rfl (m_X8_isCalm C.2.2.2.2.2.2.2.2 l  hσ9) (fgV tw_1151 tw_1153 tw_51 tw_75 tw_1154) hd_X8_isCalm ⟨rfl, rfl, Nat.le_of_ble_eq_true rfl, Nat.le_of_ble_eq_true rfl⟩ rfl hl.1 rfl (Nat.le_of_ble_eq_true rfl) (kd kX8_decides_0 38 rfl)) (fun H locs hP hS => ?_)
  refine lv_if_ne (tgt := 96) C.1 C.2.1 (kd kX8_decides_0 39 rfl) (by decide) (fun q => ?_) (fun q => ?_)
  · have hf := fif_neg q hf
    refine lv_iload_n C.1 C.2.1 (kd kX8_decides_1 1 rfl) rfl (lv_at hl 2 rfl) ?_
    refine lv_if_lt (tgt := 117) C.1 C.2.1 (kd kX8_decides_1 2 rfl) (by decide) (fun q => ?_) (fun q => ?_)
    · have hf := fif_pos q hf
      refine lv_iload_n C.1 C.2.1 (kd kX8_decides_1 14 rfl) rfl (lv_at hl 1 rfl) ?_
      refine lv_if_lt (tgt := 138) C.1 C.2.1 (kd kX8_decides_1 15 rfl) (by decide) (fun q => ?_) (fun q => ?_)
      · have hf := fif_pos q hf
        refine lv_iload C.1 C.2.1 (kd kX8_decides_1 27 rfl) (lv_at hl 0 rfl) ?_
        refine lv_if_lt (tgt := 158) C.1 C.2.1 (kd kX8_decides_1 28 rfl) (by decide) (fun q => ?_) (fun q => ?_)
        · have hf := fif_pos q hf
          exact w_X8_decides_b158 C (x1) σ9 H locs ls hf hP hS (lv_sub hl [3, 4] rfl)
        have hf := fif_neg q hf
        refine lv_aload_n C.1 C.2.1 (kd kX8_decides_1 29 rfl) rfl (lv_at hl 3 rfl) ?_
        refine fl_get (j := 14) (v := .ref (Γ.1 173)) C hP rfl (Nat.le_of_ble_eq_true rfl) rfl inX8 (Nat.le_of_ble_eq_true rfl) tw_876 rfl (kd kX8_decides_1 30 rfl) ?_
        refine lv_iload_n C.1 C.2.1 (kd kX8_decides_1 31 rfl) rfl (lv_at hl 4 rfl) ?_
        refine lv_iconst (v := (4 : Int32)) C.1 C.2.1 (kd kX8_decides_1 32 rfl) (by decide) ?_
        obtain ⟨hq, hf⟩ := fb_some hf
        obtain ⟨σ10, eσ10, hf⟩ := fL_some hf
        refine fl_iast C hP hS rfl hq (kd kX8_decides_1 33 rfl) (fun H locs hP hS => ?_)
        have hP : fH Γ σ10 H := by rw [eσ10]; exact hP
        refine lv_aload_n C.1 C.2.1 (kd kX8_decides_1 34 rfl) rfl (lv_at hl 3 rfl) ?_
        refine fl_get (j := 15) (v := .ref (Γ.1 174)) C hP rfl (Nat.le_of_ble_eq_true rfl) rfl inX8 (Nat.le_of_ble_eq_true rfl) tw_877 rfl (kd kX8_decides_1 35 rfl) ?_
        refine lv_iload_n C.1 C.2.1 (kd kX8_decides_1 36 rfl) rfl (lv_at hl 4 rfl) ?_
        refine lv_iload C.1 C.2.1 (kd kX8_decides_1 37 rfl) (lv_at hl 0 rfl) ?_
        obtain ⟨hq, hf⟩ := fb_some hf
        obtain ⟨σ11, eσ11, hf⟩ := fL_some hf
        refine fl_iast C hP hS rfl hq (kd kX8_decides_1 38 rfl) (fun H locs hP hS => ?_)
        have hP : fH Γ σ11 H := by rw [eσ11]; exact hP
        exact w_X8_decides_b158 C (x1) σ11 H locs ls hf hP hS (lv_sub hl [3, 4] rfl)
      have hf := fif_neg q hf
      refine lv_aload_n C.1 C.2.1 (kd kX8_decides_1 16 rfl) rfl (lv_at hl 3 rfl) ?_
      refine fl_get (j := 14) (v := .ref (Γ.1 173)) C hP rfl (Nat.le_of_ble_eq_true rfl) rfl inX8 (Nat.le_of_ble_eq_true rfl) tw_876 rfl (kd kX8_decides_1 17 rfl) ?_
      refine lv_iload_n C.1 C.2.1 (kd kX8_decides_1 18 rfl) rfl (lv_at hl 4 rfl) ?_
      refine lv_iconst (v := (3 : Int32)) C.1 C.2.1 (kd kX8_decides_1 19 rfl) (by decide) ?_
      obtain ⟨hq, hf⟩ := fb_some hf
      obtain ⟨σ12, eσ12, hf⟩ := fL_some hf
      refine fl_iast C hP hS rfl hq (kd kX8_decides_1 20 rfl) (fun H locs hP hS => ?_)
      have hP : fH Γ σ12 H := by rw [eσ12]; exact hP
      refine lv_aload_n C.1 C.2.1 (kd kX8_decides_1 21 rfl) rfl (lv_at hl 3 rfl) ?_
      refine fl_get (j := 15) (v := .ref (Γ.1 174)) C hP rfl (Nat.le_of_ble_eq_true rfl) rfl inX8 (Nat.le_of_ble_eq_true rfl) tw_877 rfl (kd kX8_decides_1 22 rfl) ?_
      refine lv_iload_n C.1 C.2.1 (kd kX8_decides_1 23 rfl) rfl (lv_at hl 4 rfl) ?_
      refine lv_iload_n C.1 C.2.1 (kd kX8_decides_1 24 rfl) rfl (lv_at hl 1 rfl) ?_
      obtain ⟨hq, hf⟩ := fb_some hf
      obtain ⟨σ13, eσ13, hf⟩ := fL_some hf
      refine fl_iast C hP hS rfl hq (kd kX8_decides_1 25 rfl) (fun H locs hP hS => ?_)
      have hP : fH Γ σ13 H := by rw [eσ13]; exact hP
      refine lv_goto (tgt := 158) C.1 C.2.1 (kd kX8_decides_1 26 rfl) (by decide) ?_
      exact w_X8_decides_b158 C (x1) σ13 H locs ls hf hP hS (lv_sub hl [3, 4] rfl)
    have hf := fif_neg q hf
    refine lv_aload_n C.1 C.2.1 (kd kX8_decides_1 3 rfl) rfl (lv_at hl 3 rfl) ?_
    refine fl_get (j := 14) (v := .ref (Γ.1 173)) C hP rfl (Nat.le_of_ble_eq_true rfl) rfl inX8 (Nat.le_of_ble_eq_true rfl) tw_876 rfl (kd kX8_decides_1 4 rfl) ?_
    refine lv_iload_n C.1 C.2.1 (kd kX8_decides_1 5 rfl) rfl (lv_at hl 4 rfl) ?_
    refine lv_iconst (v := (2 : Int32)) C.1 C.2.1 (kd kX8_decides_1 6 rfl) (by decide) ?_
    obtain ⟨hq, hf⟩ := fb_some hf
    obtain ⟨σ14, eσ14, hf⟩ := fL_some hf
    refine fl_iast C hP hS rfl hq (kd kX8_decides_1 7 rfl) (fun H locs hP hS => ?_)
    have hP : fH Γ σ14 H := by rw [eσ14]; exact hP
    refine lv_aload_n C.1 C.2.1 (kd kX8_decides_1 8 rfl) rfl (lv_at hl 3 rfl) ?_
    refine fl_get (j := 15) (v := .ref (Γ.1 174)) C hP rfl (Nat.le_of_ble_eq_true rfl) rfl inX8 (Nat.le_of_ble_eq_true rfl) tw_877 rfl (kd kX8_decides_1 9 rfl) ?_
    refine lv_iload_n C.1 C.2.1 (kd kX8_decides_1 10 rfl) rfl (lv_at hl 4 rfl) ?_
    refine lv_iload_n C.1 C.2.1 (kd kX8_decides_1 11 rfl) rfl (lv_at hl 2 rfl) ?_
    obtain ⟨hq, hf⟩ := fb_some hf
    obtain ⟨σ15, eσ15, hf⟩ := fL_some hf
    refine fl_iast C hP hS rfl hq (kd kX8_decides_1 12 rfl) (fun H locs hP hS => ?_)
    have hP : fH Γ σ15 H := by rw [eσ15]; exact hP
    refine lv_goto (tgt := 158) C.1 C.2.1 (kd kX8_decides_1 13 rfl) (by decide) ?_
    exact w_X8_decides_b158 C (x1) σ15 H locs ls hf hP hS (lv_sub hl [3, 4] rfl)
  have hf := fif_pos q hf
  refine lv_aload_n C.1 C.2.1 (kd kX8_decides_0 40 rfl) rfl (lv_at hl 3 rfl) ?_
  refine fl_get (j := 14) (v := .ref (Γ.1 173)) C hP rfl (Nat.le_of_ble_eq_true rfl) rfl inX8 (Nat.le_of_ble_eq_true rfl) tw_876 rfl (kd kX8_decides_0 41 rfl) ?_
  refine lv_iload_n C.1 C.2.1 (kd kX8_decides_0 42 rfl) rfl (lv_at hl 4 rfl) ?_
  refine lv_iconst (v := (1 : Int32)) C.1 C.2.1 (kd kX8_decides_0 43 rfl) (by decide) ?_
  obtain ⟨hq, hf⟩ := fb_some hf
  obtain ⟨σ16, eσ16, hf⟩ := fL_some hf
  refine fl_iast C hP hS rfl hq (kd kX8_decides_0 44 rfl) (fun H locs hP hS => ?_)
  have hP : fH Γ σ16 H := by rw [eσ16]; exact hP
  refine lv_aload_n C.1 C.2.1 (kd kX8_decides_0 45 rfl) rfl (lv_at hl 3 rfl) ?_
  refine fl_get (j := 15) (v := .ref (Γ.1 174)) C hP rfl (Nat.le_of_ble_eq_true rfl) rfl inX8 (Nat.le_of_ble_eq_true rfl) tw_877 rfl (kd kX8_decides_0 46 rfl) ?_
  refine lv_iload_n C.1 C.2.1 (kd kX8_decides_0 47 rfl) rfl (lv_at hl 4 rfl) ?_
  refine lv_aload_n C.1 C.2.1 (kd kX8_decides_0 48 rfl) rfl (lv_at hl 3 rfl) ?_
  refine fl_get (j := 0) (v := .ref (Γ.1 165)) C hP rfl (Nat.le_of_ble_eq_true rfl) rfl inX8 (Nat.le_of_ble_eq_true rfl) tw_862 rfl (kd kX8_decides_0 49 rfl) ?_
  refine lv_bipush (v := (49 : Int32)) C.1 C.2.1 (kd kX8_decides_0 50 rfl) (by decide) ?_
  refine lv_aload_n C.1 C.2.1 (kd kX8_decides_0 51 rfl) rfl (lv_at hl 3 rfl) ?_
  refine lv_iload_n C.1 C.2.1 (kd kX8_decides_0 52 rfl) rfl (lv_at hl 4 rfl) ?_
  refine lv_iconst (v := (3 : Int32)) C.1 C.2.1 (kd kX8_decides_0 53 rfl) (by decide) ?_
  obtain ⟨r17_, σ17, hσ17, hf⟩ := fcall_some hf
  refine fl_i hS (fl_runV (As := [.int x1, .int (3 : Int32)]) (rest := [.int (49 : Int32), .ref (Γ.1 165), .int x1, .ref (Γ.1 174)]) C hP rfl (Nat.le_of_ble_eq_true rfl) rfl (m_X8_of C.2.2.2.2.2.2.2.2 l  hσ17) (fgV tw_1118 tw_1120 tw_43 tw_75 tw_1121) hd_X8_of ⟨rfl, rfl, Nat.le_of_ble_eq_true rfl, Nat.le_of_ble_eq_true rfl⟩ rfl hl.1 rfl (Nat.le_of_ble_eq_true rfl) (kd kX8_decides_0 54 rfl)) (fun H locs hP hS => ?_)
  refine lv_bipush (v := (60 : Int32)) C.1 C.2.1 (kd kX8_decides_0 55 rfl) (by decide) ?_
  refine lv_idiv C.1 C.2.1 (kd kX8_decides_0 56 rfl) (by decide) ?_
  refine lv_iadd C.1 C.2.1 (kd kX8_decides_0 57 rfl) ?_
  obtain ⟨hq, hf⟩ := fb_some hf
  refine fl_iald C hP rfl hq (kd kX8_decides_0 58 rfl) ?_
  obtain ⟨hq, hf⟩ := fb_some hf
  obtain ⟨σ18, eσ18, hf⟩ := fL_some hf
  refine fl_iast C hP hS rfl hq (kd kX8_decides_0 59 rfl) (fun H locs hP hS => ?_)
  have hP : fH Γ σ18 H := by rw [eσ18]; exact hP
  refine lv_goto (tgt := 158) C.1 C.2.1 (kd kX8_decides_1 0 rfl) (by decide) ?_
  exact w_X8_decides_b158 C (x1) σ18 H locs ls hf hP hS (lv_sub hl [3, 4] rfl)
def f_X8_waitsAt (x1 : Int32) (x2 : Int32) (σ : fS) : Option (fS) := fb x1 12 (fb (((24 : Int32) * x1) + (σ 177 x1.toNatClampNeg)) 288 (fL (fu σ 176 (((24 : Int32) * x1) + (σ 177 x1.toNatClampNeg)).toNatClampNeg x2) (fun σ1 => fb x1 12 (fb x1 12 (fL (fu σ1 177 x1.toNatClampNeg ((σ1 177 x1.toNatClampNeg) + (1 : Int32))) (fun σ2 => some σ2))))))
set_option maxRecDepth 100000 in
set_option maxHeartbeats 4000000 in
theorem m_X8_waitsAt {Γ : fGm} (hI : fI Γ) (l : Launch) {x1 : Int32} {x2 : Int32} {σ : fS} {σ' : fS} (hf : f_X8_waitsAt x1 x2 σ = some σ') : Met l yX8_waitsAt (.code yX8_waitsAt cX8_waitsAt 3 none :: lw_g) ({ frames := 0, cells := 0, slots := 0, locals := 0 } : Room) (fPre Γ [.ref (Γ.1 164), .int x1, .int x2] σ) (fQv Γ σ') 0 0 (fAd Γ) := by
  refine fl_enter (own := RX8) hI (by decide +kernel) rfl (Nat.le_of_ble_eq_true rfl) ?_
  intro p e s m args below meth c ls C hl hP hS
  have hl : lv_has ls 3 [(0, .ref (Γ.1 164)), (1, .int x1), (2, .int x2)] := hl
  obtain ⟨H, hH⟩ : ∃ H, H = s.heap := ⟨_, rfl⟩
  obtain ⟨locs, hL⟩ : ∃ L : List Loc, L = [] := ⟨_, rfl⟩
  have hP : fH Γ σ H := by rw [hH]; exact hP
  have hS : va_S (fAd Γ) s.heap H locs := by rw [hH, hL]; exact hS
  suffices hw : W p l e ({ frames := 0, cells := 0, slots := 0, locals := 0 } : Room) s m args below meth c H locs 0 0 (MQ below (fQv Γ σ') args s 0 0 (fAd Γ)) (F0 m 0 ls []) by rw [hH, hL] at hw; exact hw
  unfold f_X8_waitsAt at hf
  refine lv_aload_n C.1 C.2.1 (kd kX8_waitsAt_0 0 rfl) rfl (lv_at hl 0 rfl) ?_
  refine fl_get (j := 17) (v := .ref (Γ.1 176)) C hP rfl (Nat.le_of_ble_eq_true rfl) rfl inX8 (Nat.le_of_ble_eq_true rfl) tw_879 rfl (kd kX8_waitsAt_0 1 rfl) ?_
  refine lv_bipush (v := (24 : Int32)) C.1 C.2.1 (kd kX8_waitsAt_0 2 rfl) (by decide) ?_
  refine lv_iload_n C.1 C.2.1 (kd kX8_waitsAt_0 3 rfl) rfl (lv_at hl 1 rfl) ?_
  refine lv_imul C.1 C.2.1 (kd kX8_waitsAt_0 4 rfl) ?_
  refine lv_aload_n C.1 C.2.1 (kd kX8_waitsAt_0 5 rfl) rfl (lv_at hl 0 rfl) ?_
  refine fl_get (j := 18) (v := .ref (Γ.1 177)) C hP rfl (Nat.le_of_ble_eq_true rfl) rfl inX8 (Nat.le_of_ble_eq_true rfl) tw_880 rfl (kd kX8_waitsAt_0 6 rfl) ?_
  refine lv_iload_n C.1 C.2.1 (kd kX8_waitsAt_0 7 rfl) rfl (lv_at hl 1 rfl) ?_
  obtain ⟨hq, hf⟩ := fb_some hf
  refine fl_iald C hP rfl hq (kd kX8_waitsAt_0 8 rfl) ?_
  refine lv_iadd C.1 C.2.1 (kd kX8_waitsAt_0 9 rfl) ?_
  refine lv_iload_n C.1 C.2.1 (kd kX8_waitsAt_0 10 rfl) rfl (lv_at hl 2 rfl) ?_
  obtain ⟨hq, hf⟩ := fb_some hf
  obtain ⟨σ1, eσ1, hf⟩ := fL_some hf
  refine fl_iast C hP hS rfl hq (kd kX8_waitsAt_0 11 rfl) (fun H locs hP hS => ?_)
  have hP : fH Γ σ1 H := by rw [eσ1]; exact hP
  refine lv_aload_n C.1 C.2.1 (kd kX8_waitsAt_0 12 rfl) rfl (lv_at hl 0 rfl) ?_
  refine fl_get (j := 18) (v := .ref (Γ.1 177)) C hP rfl (Nat.le_of_ble_eq_true rfl) rfl inX8 (Nat.le_of_ble_eq_true rfl) tw_880 rfl (kd kX8_waitsAt_0 13 rfl) ?_
  refine lv_iload_n C.1 C.2.1 (kd kX8_waitsAt_0 14 rfl) rfl (lv_at hl 1 rfl) ?_
  refine lv_dup2_11 C.1 C.2.1 (kd kX8_waitsAt_0 15 rfl) rfl rfl ?_
  obtain ⟨hq, hf⟩ := fb_some hf
  refine fl_iald C hP rfl hq (kd kX8_waitsAt_0 16 rfl) ?_
  refine lv_iconst (v := (1 : Int32)) C.1 C.2.1 (kd kX8_waitsAt_0 17 rfl) (by decide) ?_
  refine lv_iadd C.1 C.2.1 (kd kX8_waitsAt_0 18 rfl) ?_
  obtain ⟨hq, hf⟩ := fb_some hf
  obtain ⟨σ2, eσ2, hf⟩ := fL_some hf
  refine fl_iast C hP hS rfl hq (kd kX8_waitsAt_0 19 rfl) (fun H locs hP hS => ?_)
  have hP : fH Γ σ2 H := by rw [eσ2]; exact hP
  exact fl_vret C hP hS hf (kd kX8_waitsAt_0 20 rfl)
def f_X8_laneFor_b172 (K5 : Int32 → Int32 → Int32 → Int32 → fS → Option (Int32 × fS)) (v1 : Int32) (v2 : Int32) (v3 : Int32) (v4 : Int32) (σ : fS) : Option (Int32 × fS) := K5 (v1) (v2) (v3) ((v4 + (1 : Int32))) σ
set_option maxRecDepth 100000 in
set_option maxHeartbeats 4000000 in
theorem w_X8_laneFor_b172 {r : Int32} {σ' : fS} {K5 : Int32 → Int32 → Int32 → Int32 → fS → Option (Int32 × fS)}  (C : fC Γ p s m args meth c cX8_laneFor (some .int) RX8 9) (hK5 : ∀ (v1 : Int32) (v2 : Int32) (v3 : Int32) (v4 : Int32) (σ : fS) (H : Heap) (locs : List Loc) (ls : Array Slot), K5 v1 v2 v3 v4 σ = some (r, σ') → fH Γ σ H → va_S (fAd Γ) s.heap H locs → lv_has ls 9 [(0, .ref (Γ.1 164)), (1, .int v1), (2, .int v2), (3, .int v3), (4, .int v4)] → W p l e ({ frames := 1, cells := 0, slots := 0, locals := 22 } : Room) s m args below meth c H locs 0 0 (MQ below (fQi Γ r σ') args s 0 0 (fAd Γ)) (F0 m 5 ls [])) : ∀ (v1 : Int32) (v2 : Int32) (v3 : Int32) (v4 : Int32) (σ : fS) (H : Heap) (locs : List Loc) (ls : Array Slot), f_X8_laneFor_b172 K5 v1 v2 v3 v4 σ = some (r, σ') → fH Γ σ H → va_S (fAd Γ) s.heap H locs → lv_has ls 9 [(0, .ref (Γ.1 164)), (1, .int v1), (2, .int v2), (3, .int v3), (4, .int v4)] → W p l e ({ frames := 1, cells := 0, slots := 0, locals := 22 } : Room) s m args below meth c H locs 0 0 (MQ below (fQi Γ r σ') args s 0 0 (fAd Γ)) (F0 m 172 ls []) := by
  intro v1 v2 v3 v4 σ H locs ls hf hP hS hl
  unfold f_X8_laneFor_b172 at hf
  refine lv_iinc (v := (v4 + (1 : Int32))) (lv' := [(4, .int (v4 + (1 : Int32))), (0, .ref (Γ.1 164)), (1, .int v1), (2, .int v2), (3, .int v3)]) C.1 C.2.1 (kd kX8_laneFor_1 40 rfl) hl (k := 4) rfl rfl (Nat.le_of_ble_eq_true rfl) rfl (fun ls hl => ?_)
  refine lv_goto (tgt := 5) C.1 C.2.1 (kd kX8_laneFor_1 41 rfl) (by decide) ?_
  exact hK5 (v1) (v2) (v3) ((v4 + (1 : Int32))) σ H locs ls hf hP hS (lv_sub hl [1, 2, 3, 4, 0] rfl)
def f_X8_laneFor_b169 (K5 : Int32 → Int32 → Int32 → Int32 → fS → Option (Int32 × fS)) (v1 : Int32) (v2 : Int32) (v4 : Int32) (σ : fS) : Option (Int32 × fS) := f_X8_laneFor_b172 K5 (v1) (v2) (v4) (v4) σ
set_option maxRecDepth 100000 in
set_option maxHeartbeats 4000000 in
theorem w_X8_laneFor_b169 {r : Int32} {σ' : fS} {K5 : Int32 → Int32 → Int32 → Int32 → fS → Option (Int32 × fS)}  (C : fC Γ p s m args meth c cX8_laneFor (some .int) RX8 9) (hK5 : ∀ (v1 : Int32) (v2 : Int32) (v3 : Int32) (v4 : Int32) (σ : fS) (H : Heap) (locs : List Loc) (ls : Array Slot), K5 v1 v2 v3 v4 σ = some (r, σ') → fH Γ σ H → va_S (fAd Γ) s.heap H locs → lv_has ls 9 [(0, .ref (Γ.1 164)), (1, .int v1), (2, .int v2), (3, .int v3), (4, .int v4)] → W p l e ({ frames := 1, cells := 0, slots := 0, locals := 22 } : Room) s m args below meth c H locs 0 0 (MQ below (fQi Γ r σ') args s 0 0 (fAd Γ)) (F0 m 5 ls [])) : ∀ (v1 : Int32) (v2 : Int32) (v4 : Int32) (σ : fS) (H : Heap) (locs : List Loc) (ls : Array Slot), f_X8_laneFor_b169 K5 v1 v2 v4 σ = some (r, σ') → fH Γ σ H → va_S (fAd Γ) s.heap H locs → lv_has ls 9 [(0, .ref (Γ.1 164)), (1, .int v1), (2, .int v2), (4, .int v4)] → W p l e ({ frames := 1, cells := 0, slots := 0, locals := 22 } : Room) s m args below meth c H locs 0 0 (MQ below (fQi Γ r σ') args s 0 0 (fAd Γ)) (F0 m 169 ls []) := by
  intro v1 v2 v4 σ H locs ls hf hP hS hl
  unfold f_X8_laneFor_b169 at hf
  refine lv_iload C.1 C.2.1 (kd kX8_laneFor_1 38 rfl) (lv_at hl 3 rfl) ?_
  refine lv_istore_n (lv' := [(3, .int v4), (0, .ref (Γ.1 164)), (1, .int v1), (2, .int v2), (4, .int v4)]) C.1 C.2.1 (kd kX8_laneFor_1 39 rfl) rfl hl (Nat.le_of_ble_eq_true rfl) rfl (fun ls hl => ?_)
  exact w_X8_laneFor_b172 C hK5 (v1) (v2) (v4) (v4) σ H locs ls hf hP hS (lv_sub hl [1, 2, 3, 0, 4] rfl)
def f_X8_laneFor_b121 (K5 : Int32 → Int32 → Int32 → Int32 → fS → Option (Int32 × fS)) (v1 : Int32) (v2 : Int32) (v3 : Int32) (v4 : Int32) (v5 : Int32) (s0 : Int32) (σ : fS) : Option (Int32 × fS) := (if s0 = 0 then f_X8_laneFor_b172 K5 (v1) (v2) (v3) (v4) σ else fb v5 48 (fcall (f_X8_vehicleOf v2 (1 : Int32) σ) (fun r1_ σ1 => (if (σ 184 v5.toNatClampNeg) < r1_ then f_X8_laneFor_b172 K5 (v1) (v2) (v3) (v4) σ1 else (if v3 = (-1 : Int32) then f_X8_laneFor_b169 K5 (v1) (v2) (v4) σ1 else fb v5 48 (fb (((4 : Int32) * v1) + v3) 48 ((if (σ1 184 (((4 : Int32) * v1) + v3).toNatClampNeg) ≤ (σ1 184 v5.toNatClampNeg) then f_X8_laneFor_b172 K5 (v1) (v2) (v3) (v4) σ1 else f_X8_laneFor_b169 K5 (v1) (v2) (v4) σ1))))))))
set_option maxRecDepth 100000 in
set_option maxHeartbeats 4000000 in
theorem w_X8_laneFor_b121 {r : Int32} {σ' : fS} {K5 : Int32 → Int32 → Int32 → Int32 → fS → Option (Int32 × fS)}  (C : fC Γ p s m args meth c cX8_laneFor (some .int) RX8 9) (hK5 : ∀ (v1 : Int32) (v2 : Int32) (v3 : Int32) (v4 : Int32) (σ : fS) (H : Heap) (locs : List Loc) (ls : Array Slot), K5 v1 v2 v3 v4 σ = some (r, σ') → fH Γ σ H → va_S (fAd Γ) s.heap H locs → lv_has ls 9 [(0, .ref (Γ.1 164)), (1, .int v1), (2, .int v2), (3, .int v3), (4, .int v4)] → W p l e ({ frames := 1, cells := 0, slots := 0, locals := 22 } : Room) s m args below meth c H locs 0 0 (MQ below (fQi Γ r σ') args s 0 0 (fAd Γ)) (F0 m 5 ls [])) : ∀ (v1 : Int32) (v2 : Int32) (v3 : Int32) (v4 : Int32) (v5 : Int32) (s0 : Int32) (σ : fS) (H : Heap) (locs : List Loc) (ls : Array Slot), f_X8_laneFor_b121 K5 v1 v2 v3 v4 v5 s0 σ = some (r, σ') → fH Γ σ H → va_S (fAd Γ) s.heap H locs → lv_has ls 9 [(0, .ref (Γ.1 164)), (1, .int v1), (2, .int v2), (3, .int v3), (4, .int v4), (5, .int v5)] → W p l e ({ frames := 1, cells := 0, slots := 0, locals := 22 } : Room) s m args below meth c H locs 0 0 (MQ below (fQi Γ r σ') args s 0 0 (fAd Γ)) (F0 m 121 ls [.int s0]) := by
  intro v1 v2 v3 v4 v5 s0 σ H locs ls hf hP hS hl
  unfold f_X8_laneFor_b121 at hf
  refine lv_istore (lv' := [(8, .int s0), (0, .ref (Γ.1 164)), (1, .int v1), (2, .int v2), (3, .int v3), (4, .int v4), (5, .int v5)]) C.1 C.2.1 (kd kX8_laneFor_1 10 rfl) hl (Nat.le_of_ble_eq_true rfl) rfl (fun ls hl => ?_)
  refine lv_iload C.1 C.2.1 (kd kX8_laneFor_1 11 rfl) (lv_at hl 0 rfl) ?_
  refine lv_if_eq (tgt := 172) C.1 C.2.1 (kd kX8_laneFor_1 12 rfl) (by decide) (fun q => ?_) (fun q => ?_)
  · have hf := fif_pos q hf
    exact w_X8_laneFor_b172 C hK5 (v1) (v2) (v3) (v4) σ H locs ls hf hP hS (lv_sub hl [1, 2, 3, 4, 5] rfl)
  have hf := fif_neg q hf
  refine lv_aload_n C.1 C.2.1 (kd kX8_laneFor_1 13 rfl) rfl (lv_at hl 1 rfl) ?_
  refine fl_get (j := 25) (v := .ref (Γ.1 184)) C hP rfl (Nat.le_of_ble_eq_true rfl) rfl inX8 (Nat.le_of_ble_eq_true rfl) tw_887 rfl (kd kX8_laneFor_1 14 rfl) ?_
  refine lv_iload C.1 C.2.1 (kd kX8_laneFor_1 15 rfl) (lv_at hl 6 rfl) ?_
  obtain ⟨hq, hf⟩ := fb_some hf
  refine fl_iald C hP rfl hq (kd kX8_laneFor_1 16 rfl) ?_
  refine lv_aload_n C.1 C.2.1 (kd kX8_laneFor_1 17 rfl) rfl (lv_at hl 1 rfl) ?_
  refine lv_iload_n C.1 C.2.1 (kd kX8_laneFor_1 18 rfl) rfl (lv_at hl 3 rfl) ?_
  refine lv_iconst (v := (1 : Int32)) C.1 C.2.1 (kd kX8_laneFor_1 19 rfl) (by decide) ?_
  obtain ⟨r1_, σ1, hσ1, hf⟩ := fcall_some hf
  refine fl_i hS (fl_runV (As := [.int v2, .int (1 : Int32)]) (rest := [.int (σ 184 v5.toNatClampNeg)]) C hP rfl (Nat.le_of_ble_eq_true rfl) rfl (m_X8_vehicleOf C.2.2.2.2.2.2.2.2 l  hσ1) (fgV tw_1163 tw_1165 tw_54 tw_75 tw_1166) hd_X8_vehicleOf ⟨rfl, rfl, Nat.le_of_ble_eq_true rfl, Nat.le_of_ble_eq_true rfl⟩ rfl hl.1 rfl (Nat.le_of_ble_eq_true rfl) (kd kX8_laneFor_1 20 rfl)) (fun H locs hP hS => ?_)
  refine lv_icmp_lt (tgt := 172) C.1 C.2.1 (kd kX8_laneFor_1 21 rfl) (by decide) (fun q => ?_) (fun q => ?_)
  · have hf := fif_pos q hf
    exact w_X8_laneFor_b172 C hK5 (v1) (v2) (v3) (v4) σ1 H locs ls hf hP hS (lv_sub hl [1, 2, 3, 4, 5] rfl)
  have hf := fif_neg q hf
  refine lv_iload_n C.1 C.2.1 (kd kX8_laneFor_1 22 rfl) rfl (lv_at hl 4 rfl) ?_
  refine lv_iconst (v := (-1 : Int32)) C.1 C.2.1 (kd kX8_laneFor_1 23 rfl) (by decide) ?_
  refine lv_icmp_eq (tgt := 169) C.1 C.2.1 (kd kX8_laneFor_1 24 rfl) (by decide) (fun q => ?_) (fun q => ?_)
  · have hf := fif_pos q hf
    exact w_X8_laneFor_b169 C hK5 (v1) (v2) (v4) σ1 H locs ls hf hP hS (lv_sub hl [1, 2, 3, 5] rfl)
  have hf := fif_neg q hf
  refine lv_aload_n C.1 C.2.1 (kd kX8_laneFor_1 25 rfl) rfl (lv_at hl 1 rfl) ?_
  refine fl_get (j := 25) (v := .ref (Γ.1 184)) C hP rfl (Nat.le_of_ble_eq_true rfl) rfl inX8 (Nat.le_of_ble_eq_true rfl) tw_887 rfl (kd kX8_laneFor_1 26 rfl) ?_
  refine lv_iload C.1 C.2.1 (kd kX8_laneFor_1 27 rfl) (lv_at hl 6 rfl) ?_
  obtain ⟨hq, hf⟩ := fb_some hf
  refine fl_iald C hP rfl hq (kd kX8_laneFor_1 28 rfl) ?_
  refine lv_aload_n C.1 C.2.1 (kd kX8_laneFor_1 29 rfl) rfl (lv_at hl 1 rfl) ?_
  refine fl_get (j := 25) (v := .ref (Γ.1 184)) C hP rfl (Nat.le_of_ble_eq_true rfl) rfl inX8 (Nat.le_of_ble_eq_true rfl) tw_887 rfl (kd kX8_laneFor_1 30 rfl) ?_
  refine lv_iconst (v := (4 : Int32)) C.1 C.2.1 (kd kX8_laneFor_1 31 rfl) (by decide) ?_
  refine lv_iload_n C.1 C.2.1 (kd kX8_laneFor_1 32 rfl) rfl (lv_at hl 2 rfl) ?_
  refine lv_imul C.1 C.2.1 (kd kX8_laneFor_1 33 rfl) ?_
  refine lv_iload_n C.1 C.2.1 (kd kX8_laneFor_1 34 rfl) rfl (lv_at hl 4 rfl) ?_
  refine lv_iadd C.1 C.2.1 (kd kX8_laneFor_1 35 rfl) ?_
  obtain ⟨hq, hf⟩ := fb_some hf
  refine fl_iald C hP rfl hq (kd kX8_laneFor_1 36 rfl) ?_
  refine lv_icmp_ge (tgt := 172) C.1 C.2.1 (kd kX8_laneFor_1 37 rfl) (by decide) (fun q => ?_) (fun q => ?_)
  · have hf := fif_pos q hf
    exact w_X8_laneFor_b172 C hK5 (v1) (v2) (v3) (v4) σ1 H locs ls hf hP hS (lv_sub hl [1, 2, 3, 4, 5] rfl)
  have hf := fif_neg q hf
  exact w_X8_laneFor_b169 C hK5 (v1) (v2) (v4) σ1 H locs ls hf hP hS (lv_sub hl [1, 2, 3, 5] rfl)
def f_X8_laneFor_b116 (K5 : Int32 → Int32 → Int32 → Int32 → fS → Option (Int32 × fS)) (v1 : Int32) (v2 : Int32) (v3 : Int32) (v4 : Int32) (v5 : Int32) (σ : fS) : Option (Int32 × fS) := f_X8_laneFor_b121 K5 (v1) (v2) (v3) (v4) (v5) ((1 : Int32)) σ
set_option maxRecDepth 100000 in
set_option maxHeartbeats 4000000 in
theorem w_X8_laneFor_b116 {r : Int32} {σ' : fS} {K5 : Int32 → Int32 → Int32 → Int32 → fS → Option (Int32 × fS)}  (C : fC Γ p s m args meth c cX8_laneFor (some .int) RX8 9) (hK5 : ∀ (v1 : Int32) (v2 : Int32) (v3 : Int32) (v4 : Int32) (σ : fS) (H : Heap) (locs : List Loc) (ls : Array Slot), K5 v1 v2 v3 v4 σ = some (r, σ') → fH Γ σ H → va_S (fAd Γ) s.heap H locs → lv_has ls 9 [(0, .ref (Γ.1 164)), (1, .int v1), (2, .int v2), (3, .int v3), (4, .int v4)] → W p l e ({ frames := 1, cells := 0, slots := 0, locals := 22 } : Room) s m args below meth c H locs 0 0 (MQ below (fQi Γ r σ') args s 0 0 (fAd Γ)) (F0 m 5 ls [])) : ∀ (v1 : Int32) (v2 : Int32) (v3 : Int32) (v4 : Int32) (v5 : Int32) (σ : fS) (H : Heap) (locs : List Loc) (ls : Array Slot), f_X8_laneFor_b116 K5 v1 v2 v3 v4 v5 σ = some (r, σ') → fH Γ σ H → va_S (fAd Γ) s.heap H locs → lv_has ls 9 [(0, .ref (Γ.1 164)), (1, .int v1), (2, .int v2), (3, .int v3), (4, .int v4), (5, .int v5)] → W p l e ({ frames := 1, cells := 0, slots := 0, locals := 22 } : Room) s m args below meth c H locs 0 0 (MQ below (fQi Γ r σ') args s 0 0 (fAd Γ)) (F0 m 116 ls []) := by
  intro v1 v2 v3 v4 v5 σ H locs ls hf hP hS hl
  unfold f_X8_laneFor_b116 at hf
  refine lv_iconst (v := (1 : Int32)) C.1 C.2.1 (kd kX8_laneFor_1 7 rfl) (by decide) ?_
  refine lv_goto (tgt := 121) C.1 C.2.1 (kd kX8_laneFor_1 8 rfl) (by decide) ?_
  exact w_X8_laneFor_b121 C hK5 (v1) (v2) (v3) (v4) (v5) ((1 : Int32)) σ H locs ls hf hP hS (lv_sub hl [0, 1, 2, 3, 4, 5] rfl)
def f_X8_laneFor_b120 (K5 : Int32 → Int32 → Int32 → Int32 → fS → Option (Int32 × fS)) (v1 : Int32) (v2 : Int32) (v3 : Int32) (v4 : Int32) (v5 : Int32) (σ : fS) : Option (Int32 × fS) := f_X8_laneFor_b121 K5 (v1) (v2) (v3) (v4) (v5) ((0 : Int32)) σ
set_option maxRecDepth 100000 in
set_option maxHeartbeats 4000000 in
theorem w_X8_laneFor_b120 {r : Int32} {σ' : fS} {K5 : Int32 → Int32 → Int32 → Int32 → fS → Option (Int32 × fS)}  (C : fC Γ p s m args meth c cX8_laneFor (some .int) RX8 9) (hK5 : ∀ (v1 : Int32) (v2 : Int32) (v3 : Int32) (v4 : Int32) (σ : fS) (H : Heap) (locs : List Loc) (ls : Array Slot), K5 v1 v2 v3 v4 σ = some (r, σ') → fH Γ σ H → va_S (fAd Γ) s.heap H locs → lv_has ls 9 [(0, .ref (Γ.1 164)), (1, .int v1), (2, .int v2), (3, .int v3), (4, .int v4)] → W p l e ({ frames := 1, cells := 0, slots := 0, locals := 22 } : Room) s m args below meth c H locs 0 0 (MQ below (fQi Γ r σ') args s 0 0 (fAd Γ)) (F0 m 5 ls [])) : ∀ (v1 : Int32) (v2 : Int32) (v3 : Int32) (v4 : Int32) (v5 : Int32) (σ : fS) (H : Heap) (locs : List Loc) (ls : Array Slot), f_X8_laneFor_b120 K5 v1 v2 v3 v4 v5 σ = some (r, σ') → fH Γ σ H → va_S (fAd Γ) s.heap H locs → lv_has ls 9 [(0, .ref (Γ.1 164)), (1, .int v1), (2, .int v2), (3, .int v3), (4, .int v4), (5, .int v5)] → W p l e ({ frames := 1, cells := 0, slots := 0, locals := 22 } : Room) s m args below meth c H locs 0 0 (MQ below (fQi Γ r σ') args s 0 0 (fAd Γ)) (F0 m 120 ls []) := by
  intro v1 v2 v3 v4 v5 σ H locs ls hf hP hS hl
  unfold f_X8_laneFor_b120 at hf
  refine lv_iconst (v := (0 : Int32)) C.1 C.2.1 (kd kX8_laneFor_1 9 rfl) (by decide) ?_
  exact w_X8_laneFor_b121 C hK5 (v1) (v2) (v3) (v4) (v5) ((0 : Int32)) σ H locs ls hf hP hS (lv_sub hl [0, 1, 2, 3, 4, 5] rfl)
def f_X8_laneFor_b68 (K5 : Int32 → Int32 → Int32 → Int32 → fS → Option (Int32 × fS)) (v1 : Int32) (v2 : Int32) (v3 : Int32) (v4 : Int32) (v5 : Int32) (s0 : Int32) (σ : fS) : Option (Int32 × fS) := fcall (f_X8_vehicleOf v2 (2 : Int32) σ) (fun r1_ σ1 => (if s0 = (-1 : Int32) then f_X8_laneFor_b116 K5 (v1) (v2) (v3) (v4) (v5) σ1 else fcall (f_X8_of v1 (1 : Int32) σ1) (fun r2_ σ2 => fcall (f_X8_berthOf r2_ (1 : Int32) σ2) (fun r3_ σ3 => (if r3_ = (1 : Int32) then (if s0 < r1_ then f_X8_laneFor_b120 K5 (v1) (v2) (v3) (v4) (v5) σ3 else f_X8_laneFor_b116 K5 (v1) (v2) (v3) (v4) (v5) σ3) else (if r1_ < s0 then f_X8_laneFor_b120 K5 (v1) (v2) (v3) (v4) (v5) σ3 else f_X8_laneFor_b116 K5 (v1) (v2) (v3) (v4) (v5) σ3))))))
set_option maxRecDepth 100000 in
set_option maxHeartbeats 4000000 in
theorem w_X8_laneFor_b68 {r : Int32} {σ' : fS} {K5 : Int32 → Int32 → Int32 → Int32 → fS → Option (Int32 × fS)}  (C : fC Γ p s m args meth c cX8_laneFor (some .int) RX8 9) (hK5 : ∀ (v1 : Int32) (v2 : Int32) (v3 : Int32) (v4 : Int32) (σ : fS) (H : Heap) (locs : List Loc) (ls : Array Slot), K5 v1 v2 v3 v4 σ = some (r, σ') → fH Γ σ H → va_S (fAd Γ) s.heap H locs → lv_has ls 9 [(0, .ref (Γ.1 164)), (1, .int v1), (2, .int v2), (3, .int v3), (4, .int v4)] → W p l e ({ frames := 1, cells := 0, slots := 0, locals := 22 } : Room) s m args below meth c H locs 0 0 (MQ below (fQi Γ r σ') args s 0 0 (fAd Γ)) (F0 m 5 ls [])) : ∀ (v1 : Int32) (v2 : Int32) (v3 : Int32) (v4 : Int32) (v5 : Int32) (s0 : Int32) (σ : fS) (H : Heap) (locs : List Loc) (ls : Array Slot), f_X8_laneFor_b68 K5 v1 v2 v3 v4 v5 s0 σ = some (r, σ') → fH Γ σ H → va_S (fAd Γ) s.heap H locs → lv_has ls 9 [(0, .ref (Γ.1 164)), (1, .int v1), (2, .int v2), (3, .int v3), (4, .int v4), (5, .int v5)] → W p l e ({ frames := 1, cells := 0, slots := 0, locals := 22 } : Room) s m args below meth c H locs 0 0 (MQ below (fQi Γ r σ') args s 0 0 (fAd Γ)) (F0 m 68 ls [.int s0]) := by
  intro v1 v2 v3 v4 v5 s0 σ H locs ls hf hP hS hl
  unfold f_X8_laneFor_b68 at hf
  refine lv_istore (lv' := [(6, .int s0), (0, .ref (Γ.1 164)), (1, .int v1), (2, .int v2), (3, .int v3), (4, .int v4), (5, .int v5)]) C.1 C.2.1 (kd kX8_laneFor_0 42 rfl) hl (Nat.le_of_ble_eq_true rfl) rfl (fun ls hl => ?_)
  refine lv_aload_n C.1 C.2.1 (kd kX8_laneFor_0 43 rfl) rfl (lv_at hl 1 rfl) ?_
  refine lv_iload_n C.1 C.2.1 (kd kX8_laneFor_0 44 rfl) rfl (lv_at hl 3 rfl) ?_
  refine lv_iconst (v := (2 : Int32)) C.1 C.2.1 (kd kX8_laneFor_0 45 rfl) (by decide) ?_
  obtain ⟨r1_, σ1, hσ1, hf⟩ := fcall_some hf
  refine fl_i hS (fl_runV (As := [.int v2, .int (2 : Int32)]) (rest := []) C hP rfl (Nat.le_of_ble_eq_true rfl) rfl (m_X8_vehicleOf C.2.2.2.2.2.2.2.2 l  hσ1) (fgV tw_1163 tw_1165 tw_54 tw_75 tw_1166) hd_X8_vehicleOf ⟨rfl, rfl, Nat.le_of_ble_eq_true rfl, Nat.le_of_ble_eq_true rfl⟩ rfl hl.1 rfl (Nat.le_of_ble_eq_true rfl) (kd kX8_laneFor_0 46 rfl)) (fun H locs hP hS => ?_)
  refine lv_istore (lv' := [(7, .int r1_), (6, .int s0), (0, .ref (Γ.1 164)), (1, .int v1), (2, .int v2), (3, .int v3), (4, .int v4), (5, .int v5)]) C.1 C.2.1 (kd kX8_laneFor_0 47 rfl) hl (Nat.le_of_ble_eq_true rfl) rfl (fun ls hl => ?_)
  refine lv_iload C.1 C.2.1 (kd kX8_laneFor_0 48 rfl) (lv_at hl 1 rfl) ?_
  refine lv_iconst (v := (-1 : Int32)) C.1 C.2.1 (kd kX8_laneFor_0 49 rfl) (by decide) ?_
  refine lv_icmp_eq (tgt := 116) C.1 C.2.1 (kd kX8_laneFor_0 50 rfl) (by decide) (fun q => ?_) (fun q => ?_)
  · have hf := fif_pos q hf
    exact w_X8_laneFor_b116 C hK5 (v1) (v2) (v3) (v4) (v5) σ1 H locs ls hf hP hS (lv_sub hl [2, 3, 4, 5, 6, 7] rfl)
  have hf := fif_neg q hf
  refine lv_aload_n C.1 C.2.1 (kd kX8_laneFor_0 51 rfl) rfl (lv_at hl 2 rfl) ?_
  refine lv_aload_n C.1 C.2.1 (kd kX8_laneFor_0 52 rfl) rfl (lv_at hl 2 rfl) ?_
  refine lv_iload_n C.1 C.2.1 (kd kX8_laneFor_0 53 rfl) rfl (lv_at hl 3 rfl) ?_
  refine lv_iconst (v := (1 : Int32)) C.1 C.2.1 (kd kX8_laneFor_0 54 rfl) (by decide) ?_
  obtain ⟨r2_, σ2, hσ2, hf⟩ := fcall_some hf
  refine fl_i hS (fl_runV (As := [.int v1, .int (1 : Int32)]) (rest := [.ref (Γ.1 164)]) C hP rfl (Nat.le_of_ble_eq_true rfl) rfl (m_X8_of C.2.2.2.2.2.2.2.2 l  hσ2) (fgV tw_1118 tw_1120 tw_43 tw_75 tw_1121) hd_X8_of ⟨rfl, rfl, Nat.le_of_ble_eq_true rfl, Nat.le_of_ble_eq_true rfl⟩ rfl hl.1 rfl (Nat.le_of_ble_eq_true rfl) (kd kX8_laneFor_0 55 rfl)) (fun H locs hP hS => ?_)
  refine lv_iconst (v := (1 : Int32)) C.1 C.2.1 (kd kX8_laneFor_0 56 rfl) (by decide) ?_
  obtain ⟨r3_, σ3, hσ3, hf⟩ := fcall_some hf
  refine fl_i hS (fl_runV (As := [.int r2_, .int (1 : Int32)]) (rest := []) C hP rfl (Nat.le_of_ble_eq_true rfl) rfl (m_X8_berthOf C.2.2.2.2.2.2.2.2 l  hσ3) (fgV tw_1034 tw_1036 tw_31 tw_75 tw_1037) hd_X8_berthOf ⟨rfl, rfl, Nat.le_of_ble_eq_true rfl, Nat.le_of_ble_eq_true rfl⟩ rfl hl.1 rfl (Nat.le_of_ble_eq_true rfl) (kd kX8_laneFor_0 57 rfl)) (fun H locs hP hS => ?_)
  refine lv_iconst (v := (1 : Int32)) C.1 C.2.1 (kd kX8_laneFor_0 58 rfl) (by decide) ?_
  refine lv_icmp_ne (tgt := 109) C.1 C.2.1 (kd kX8_laneFor_0 59 rfl) (by decide) (fun q => ?_) (fun q => ?_)
  · have hf := fif_neg q hf
    refine lv_iload C.1 C.2.1 (kd kX8_laneFor_1 4 rfl) (lv_at hl 0 rfl) ?_
    refine lv_iload C.1 C.2.1 (kd kX8_laneFor_1 5 rfl) (lv_at hl 1 rfl) ?_
    refine lv_icmp_lt (tgt := 120) C.1 C.2.1 (kd kX8_laneFor_1 6 rfl) (by decide) (fun q => ?_) (fun q => ?_)
    · have hf := fif_pos q hf
      exact w_X8_laneFor_b120 C hK5 (v1) (v2) (v3) (v4) (v5) σ3 H locs ls hf hP hS (lv_sub hl [2, 3, 4, 5, 6, 7] rfl)
    have hf := fif_neg q hf
    exact w_X8_laneFor_b116 C hK5 (v1) (v2) (v3) (v4) (v5) σ3 H locs ls hf hP hS (lv_sub hl [2, 3, 4, 5, 6, 7] rfl)
  have hf := fif_pos q hf
  refine lv_iload C.1 C.2.1 (kd kX8_laneFor_1 0 rfl) (lv_at hl 0 rfl) ?_
  refine lv_iload C.1 C.2.1 (kd kX8_laneFor_1 1 rfl) (lv_at hl 1 rfl) ?_
  refine lv_icmp_gt (tgt := 120) C.1 C.2.1 (kd kX8_laneFor_1 2 rfl) (by decide) (fun q => ?_) (fun q => ?_)
  · have hf := fif_pos q hf
    exact w_X8_laneFor_b120 C hK5 (v1) (v2) (v3) (v4) (v5) σ3 H locs ls hf hP hS (lv_sub hl [2, 3, 4, 5, 6, 7] rfl)
  have hf := fif_neg q hf
  refine lv_goto (tgt := 116) C.1 C.2.1 (kd kX8_laneFor_1 3 rfl) (by decide) ?_
  exact w_X8_laneFor_b116 C hK5 (v1) (v2) (v3) (v4) (v5) σ3 H locs ls hf hP hS (lv_sub hl [2, 3, 4, 5, 6, 7] rfl)
def f_X8_laneFor_b5 : Nat → Int32 → Int32 → Int32 → Int32 → fS → Option (Int32 × fS)
  | 0, _, _, _, _, _ => none
  | n_ + 1, v1, v2, v3, v4, σ => fcall (f_X8_of v1 (0 : Int32) σ) (fun r1_ σ1 => fcall (f_X8_shipOf r1_ (1 : Int32) σ1) (fun r2_ σ2 => (if r2_ ≤ v4 then some (v3, σ2) else fb (((4 : Int32) * v1) + v4) 48 ((if (σ2 182 (((4 : Int32) * v1) + v4).toNatClampNeg) = 0 then f_X8_laneFor_b68 (fun v1 v2 v3 v4 σ => f_X8_laneFor_b5 n_ v1 v2 v3 v4 σ) (v1) (v2) (v3) (v4) ((((4 : Int32) * v1) + v4)) ((-1 : Int32)) σ2 else fb (((4 : Int32) * v1) + v4) 48 (fb ((((24 : Int32) * (((4 : Int32) * v1) + v4)) + (σ2 182 (((4 : Int32) * v1) + v4).toNatClampNeg)) - (1 : Int32)) 1152 (fcall (f_X8_vehicleOf (σ2 183 ((((24 : Int32) * (((4 : Int32) * v1) + v4)) + (σ2 182 (((4 : Int32) * v1) + v4).toNatClampNeg)) - (1 : Int32)).toNatClampNeg) (2 : Int32) σ2) (fun r3_ σ3 => f_X8_laneFor_b68 (fun v1 v2 v3 v4 σ => f_X8_laneFor_b5 n_ v1 v2 v3 v4 σ) (v1) (v2) (v3) (v4) ((((4 : Int32) * v1) + v4)) (r3_) σ3))))))))
set_option maxRecDepth 100000 in
set_option maxHeartbeats 4000000 in
theorem w_X8_laneFor_b5 {r : Int32} {σ' : fS}  (C : fC Γ p s m args meth c cX8_laneFor (some .int) RX8 9) : ∀ (n_ : Nat) (v1 : Int32) (v2 : Int32) (v3 : Int32) (v4 : Int32) (σ : fS) (H : Heap) (locs : List Loc) (ls : Array Slot), f_X8_laneFor_b5 n_ v1 v2 v3 v4 σ = some (r, σ') → fH Γ σ H → va_S (fAd Γ) s.heap H locs → lv_has ls 9 [(0, .ref (Γ.1 164)), (1, .int v1), (2, .int v2), (3, .int v3), (4, .int v4)] → W p l e ({ frames := 1, cells := 0, slots := 0, locals := 22 } : Room) s m args below meth c H locs 0 0 (MQ below (fQi Γ r σ') args s 0 0 (fAd Γ)) (F0 m 5 ls []) := by
  intro n_
  induction n_ with
  | zero =>
    intro v1 v2 v3 v4 σ H locs ls hf
    cases hf
  | succ n_ ih =>
    intro v1 v2 v3 v4 σ H locs ls hf hP hS hl
    have hf : fcall (f_X8_of v1 (0 : Int32) σ) (fun r1_ σ1 => fcall (f_X8_shipOf r1_ (1 : Int32) σ1) (fun r2_ σ2 => (if r2_ ≤ v4 then some (v3, σ2) else fb (((4 : Int32) * v1) + v4) 48 ((if (σ2 182 (((4 : Int32) * v1) + v4).toNatClampNeg) = 0 then f_X8_laneFor_b68 (fun v1 v2 v3 v4 σ => f_X8_laneFor_b5 n_ v1 v2 v3 v4 σ) (v1) (v2) (v3) (v4) ((((4 : Int32) * v1) + v4)) ((-1 : Int32)) σ2 else fb (((4 : Int32) * v1) + v4) 48 (fb ((((24 : Int32) * (((4 : Int32) * v1) + v4)) + (σ2 182 (((4 : Int32) * v1) + v4).toNatClampNeg)) - (1 : Int32)) 1152 (fcall (f_X8_vehicleOf (σ2 183 ((((24 : Int32) * (((4 : Int32) * v1) + v4)) + (σ2 182 (((4 : Int32) * v1) + v4).toNatClampNeg)) - (1 : Int32)).toNatClampNeg) (2 : Int32) σ2) (fun r3_ σ3 => f_X8_laneFor_b68 (fun v1 v2 v3 v4 σ => f_X8_laneFor_b5 n_ v1 v2 v3 v4 σ) (v1) (v2) (v3) (v4) ((((4 : Int32) * v1) + v4)) (r3_) σ3)))))))) = some (r, σ') := hf
    have hK5 := ih
    refine lv_iload C.1 C.2.1 (kd kX8_laneFor_0 4 rfl) (lv_at hl 4 rfl) ?_
    refine lv_aload_n C.1 C.2.1 (kd kX8_laneFor_0 5 rfl) rfl (lv_at hl 0 rfl) ?_
    refine lv_aload_n C.1 C.2.1 (kd kX8_laneFor_0 6 rfl) rfl (lv_at hl 0 rfl) ?_
    refine lv_iload_n C.1 C.2.1 (kd kX8_laneFor_0 7 rfl) rfl (lv_at hl 1 rfl) ?_
    refine lv_iconst (v := (0 : Int32)) C.1 C.2.1 (kd kX8_laneFor_0 8 rfl) (by decide) ?_
    obtain ⟨r1_, σ1, hσ1, hf⟩ := fcall_some hf
    refine fl_i hS (fl_runV (As := [.int v1, .int (0 : Int32)]) (rest := [.ref (Γ.1 164), .int v4]) C hP rfl (Nat.le_of_ble_eq_true rfl) rfl (m_X8_of C.2.2.2.2.2.2.2.2 l  hσ1) (fgV tw_1118 tw_1120 tw_43 tw_75 tw_1121) hd_X8_of ⟨rfl, rfl, Nat.le_of_ble_eq_true rfl, Nat.le_of_ble_eq_true rfl⟩ rfl hl.1 rfl (Nat.le_of_ble_eq_true rfl) (kd kX8_laneFor_0 9 rfl)) (fun H locs hP hS => ?_)
    refine lv_iconst (v := (1 : Int32)) C.1 C.2.1 (kd kX8_laneFor_0 10 rfl) (by decide) ?_
    obtain ⟨r2_, σ2, hσ2, hf⟩ := fcall_some hf
    refine fl_i hS (fl_runV (As := [.int r1_, .int (1 : Int32)]) (rest := [.int v4]) C hP rfl (Nat.le_of_ble_eq_true rfl) rfl (m_X8_shipOf C.2.2.2.2.2.2.2.2 l  hσ2) (fgV tw_1102 tw_1104 tw_39 tw_75 tw_1105) hd_X8_shipOf ⟨rfl, rfl, Nat.le_of_ble_eq_true rfl, Nat.le_of_ble_eq_true rfl⟩ rfl hl.1 rfl (Nat.le_of_ble_eq_true rfl) (kd kX8_laneFor_0 11 rfl)) (fun H locs hP hS => ?_)
    refine lv_icmp_ge (tgt := 178) C.1 C.2.1 (kd kX8_laneFor_0 12 rfl) (by decide) (fun q => ?_) (fun q => ?_)
    · have hf := fif_pos q hf
      refine lv_iload_n C.1 C.2.1 (kd kX8_laneFor_1 42 rfl) rfl (lv_at hl 3 rfl) ?_
      exact fl_iret C hP hS hf (kd kX8_laneFor_1 43 rfl)
    have hf := fif_neg q hf
    refine lv_iconst (v := (4 : Int32)) C.1 C.2.1 (kd kX8_laneFor_0 13 rfl) (by decide) ?_
    refine lv_iload_n C.1 C.2.1 (kd kX8_laneFor_0 14 rfl) rfl (lv_at hl 1 rfl) ?_
    refine lv_imul C.1 C.2.1 (kd kX8_laneFor_0 15 rfl) ?_
    refine lv_iload C.1 C.2.1 (kd kX8_laneFor_0 16 rfl) (lv_at hl 4 rfl) ?_
    refine lv_iadd C.1 C.2.1 (kd kX8_laneFor_0 17 rfl) ?_
    refine lv_istore (lv' := [(5, .int (((4 : Int32) * v1) + v4)), (0, .ref (Γ.1 164)), (1, .int v1), (2, .int v2), (3, .int v3), (4, .int v4)]) C.1 C.2.1 (kd kX8_laneFor_0 18 rfl) hl (Nat.le_of_ble_eq_true rfl) rfl (fun ls hl => ?_)
    refine lv_aload_n C.1 C.2.1 (kd kX8_laneFor_0 19 rfl) rfl (lv_at hl 1 rfl) ?_
    refine fl_get (j := 23) (v := .ref (Γ.1 182)) C hP rfl (Nat.le_of_ble_eq_true rfl) rfl inX8 (Nat.le_of_ble_eq_true rfl) tw_885 rfl (kd kX8_laneFor_0 20 rfl) ?_
    refine lv_iload C.1 C.2.1 (kd kX8_laneFor_0 21 rfl) (lv_at hl 0 rfl) ?_
    obtain ⟨hq, hf⟩ := fb_some hf
    refine fl_iald C hP rfl hq (kd kX8_laneFor_0 22 rfl) ?_
    refine lv_if_ne (tgt := 43) C.1 C.2.1 (kd kX8_laneFor_0 23 rfl) (by decide) (fun q => ?_) (fun q => ?_)
    · have hf := fif_neg q hf
      refine lv_aload_n C.1 C.2.1 (kd kX8_laneFor_0 26 rfl) rfl (lv_at hl 1 rfl) ?_
      refine lv_aload_n C.1 C.2.1 (kd kX8_laneFor_0 27 rfl) rfl (lv_at hl 1 rfl) ?_
      refine fl_get (j := 24) (v := .ref (Γ.1 183)) C hP rfl (Nat.le_of_ble_eq_true rfl) rfl inX8 (Nat.le_of_ble_eq_true rfl) tw_886 rfl (kd kX8_laneFor_0 28 rfl) ?_
      refine lv_bipush (v := (24 : Int32)) C.1 C.2.1 (kd kX8_laneFor_0 29 rfl) (by decide) ?_
      refine lv_iload C.1 C.2.1 (kd kX8_laneFor_0 30 rfl) (lv_at hl 0 rfl) ?_
      refine lv_imul C.1 C.2.1 (kd kX8_laneFor_0 31 rfl) ?_
      refine lv_aload_n C.1 C.2.1 (kd kX8_laneFor_0 32 rfl) rfl (lv_at hl 1 rfl) ?_
      refine fl_get (j := 23) (v := .ref (Γ.1 182)) C hP rfl (Nat.le_of_ble_eq_true rfl) rfl inX8 (Nat.le_of_ble_eq_true rfl) tw_885 rfl (kd kX8_laneFor_0 33 rfl) ?_
      refine lv_iload C.1 C.2.1 (kd kX8_laneFor_0 34 rfl) (lv_at hl 0 rfl) ?_
      obtain ⟨hq, hf⟩ := fb_some hf
      refine fl_iald C hP rfl hq (kd kX8_laneFor_0 35 rfl) ?_
      refine lv_iadd C.1 C.2.1 (kd kX8_laneFor_0 36 rfl) ?_
      refine lv_iconst (v := (1 : Int32)) C.1 C.2.1 (kd kX8_laneFor_0 37 rfl) (by decide) ?_
      refine lv_isub C.1 C.2.1 (kd kX8_laneFor_0 38 rfl) ?_
      obtain ⟨hq, hf⟩ := fb_some hf
      refine fl_iald C hP rfl hq (kd kX8_laneFor_0 39 rfl) ?_
      refine lv_iconst (v := (2 : Int32)) C.1 C.2.1 (kd kX8_laneFor_0 40 rfl) (by decide) ?_
      obtain ⟨r3_, σ3, hσ3, hf⟩ := fcall_some hf
      refine fl_i hS (fl_runV (As := [.int (σ2 183 ((((24 : Int32) * (((4 : Int32) * v1) + v4)) + (σ2 182 (((4 : Int32) * v1) + v4).toNatClampNeg)) - (1 : Int32)).toNatClampNeg), .int (2 : Int32)]) (rest := []) C hP rfl (Nat.le_of_ble_eq_true rfl) rfl (m_X8_vehicleOf C.2.2.2.2.2.2.2.2 l  hσ3) (fgV tw_1163 tw_1165 tw_54 tw_75 tw_1166) hd_X8_vehicleOf ⟨rfl, rfl, Nat.le_of_ble_eq_true rfl, Nat.le_of_ble_eq_true rfl⟩ rfl hl.1 rfl (Nat.le_of_ble_eq_true rfl) (kd kX8_laneFor_0 41 rfl)) (fun H locs hP hS => ?_)
      exact w_X8_laneFor_b68 C hK5 (v1) (v2) (v3) (v4) ((((4 : Int32) * v1) + v4)) (r3_) σ3 H locs ls hf hP hS (lv_sub hl [1, 2, 3, 4, 5, 0] rfl)
    have hf := fif_pos q hf
    refine lv_iconst (v := (-1 : Int32)) C.1 C.2.1 (kd kX8_laneFor_0 24 rfl) (by decide) ?_
    refine lv_goto (tgt := 68) C.1 C.2.1 (kd kX8_laneFor_0 25 rfl) (by decide) ?_
    exact w_X8_laneFor_b68 C hK5 (v1) (v2) (v3) (v4) ((((4 : Int32) * v1) + v4)) ((-1 : Int32)) σ2 H locs ls hf hP hS (lv_sub hl [1, 2, 3, 4, 5, 0] rfl)
def f_X8_laneFor (x1 : Int32) (x2 : Int32) (σ : fS) : Option (Int32 × fS) := f_X8_laneFor_b5 fN (x1) (x2) ((-1 : Int32)) ((0 : Int32)) σ
set_option maxRecDepth 100000 in
set_option maxHeartbeats 4000000 in
theorem m_X8_laneFor {Γ : fGm} (hI : fI Γ) (l : Launch) {x1 : Int32} {x2 : Int32} {σ : fS} {r : Int32} {σ' : fS} (hf : f_X8_laneFor x1 x2 σ = some (r, σ')) : Met l yX8_laneFor (.code yX8_laneFor cX8_laneFor 9 (some .int) :: lw_g) ({ frames := 1, cells := 0, slots := 0, locals := 22 } : Room) (fPre Γ [.ref (Γ.1 164), .int x1, .int x2] σ) (fQi Γ r σ') 0 0 (fAd Γ) := by
  refine fl_enter (own := RX8) hI (by decide +kernel) rfl (Nat.le_of_ble_eq_true rfl) ?_
  intro p e s m args below meth c ls C hl hP hS
  have hl : lv_has ls 9 [(0, .ref (Γ.1 164)), (1, .int x1), (2, .int x2)] := hl
  obtain ⟨H, hH⟩ : ∃ H, H = s.heap := ⟨_, rfl⟩
  obtain ⟨locs, hL⟩ : ∃ L : List Loc, L = [] := ⟨_, rfl⟩
  have hP : fH Γ σ H := by rw [hH]; exact hP
  have hS : va_S (fAd Γ) s.heap H locs := by rw [hH, hL]; exact hS
  suffices hw : W p l e ({ frames := 1, cells := 0, slots := 0, locals := 22 } : Room) s m args below meth c H locs 0 0 (MQ below (fQi Γ r σ') args s 0 0 (fAd Γ)) (F0 m 0 ls []) by rw [hH, hL] at hw; exact hw
  unfold f_X8_laneFor at hf
  refine lv_iconst (v := (-1 : Int32)) C.1 C.2.1 (kd kX8_laneFor_0 0 rfl) (by decide) ?_
  refine lv_istore_n (lv' := [(3, .int (-1 : Int32)), (0, .ref (Γ.1 164)), (1, .int x1), (2, .int x2)]) C.1 C.2.1 (kd kX8_laneFor_0 1 rfl) rfl hl (Nat.le_of_ble_eq_true rfl) rfl (fun ls hl => ?_)
  refine lv_iconst (v := (0 : Int32)) C.1 C.2.1 (kd kX8_laneFor_0 2 rfl) (by decide) ?_
  refine lv_istore (lv' := [(4, .int (0 : Int32)), (3, .int (-1 : Int32)), (0, .ref (Γ.1 164)), (1, .int x1), (2, .int x2)]) C.1 C.2.1 (kd kX8_laneFor_0 3 rfl) hl (Nat.le_of_ble_eq_true rfl) rfl (fun ls hl => ?_)
  exact w_X8_laneFor_b5 C fN (x1) (x2) ((-1 : Int32)) ((0 : Int32)) σ H locs ls hf hP hS (lv_sub hl [2, 3, 4, 1, 0] rfl)
def f_X8_shiftsFrom_b72 (K9 : Int32 → Int32 → Int32 → fS → Option (fS)) (v1 : Int32) (v2 : Int32) (v3 : Int32) (σ : fS) : Option (fS) := K9 (v1) (v2) ((v3 + (1 : Int32))) σ
set_option maxRecDepth 100000 in
set_option maxHeartbeats 4000000 in
theorem w_X8_shiftsFrom_b72 {σ' : fS} {K9 : Int32 → Int32 → Int32 → fS → Option (fS)}  (C : fC Γ p s m args meth c cX8_shiftsFrom none RX8 5) (hK9 : ∀ (v1 : Int32) (v2 : Int32) (v3 : Int32) (σ : fS) (H : Heap) (locs : List Loc) (ls : Array Slot), K9 v1 v2 v3 σ = some σ' → fH Γ σ H → va_S (fAd Γ) s.heap H locs → lv_has ls 5 [(0, .ref (Γ.1 164)), (1, .int v1), (2, .int v2), (3, .int v3)] → W p l e ({ frames := 1, cells := 0, slots := 0, locals := 22 } : Room) s m args below meth c H locs 0 0 (MQ below (fQv Γ σ') args s 0 0 (fAd Γ)) (F0 m 9 ls [])) : ∀ (v1 : Int32) (v2 : Int32) (v3 : Int32) (σ : fS) (H : Heap) (locs : List Loc) (ls : Array Slot), f_X8_shiftsFrom_b72 K9 v1 v2 v3 σ = some σ' → fH Γ σ H → va_S (fAd Γ) s.heap H locs → lv_has ls 5 [(0, .ref (Γ.1 164)), (1, .int v1), (2, .int v2), (3, .int v3)] → W p l e ({ frames := 1, cells := 0, slots := 0, locals := 22 } : Room) s m args below meth c H locs 0 0 (MQ below (fQv Γ σ') args s 0 0 (fAd Γ)) (F0 m 72 ls []) := by
  intro v1 v2 v3 σ H locs ls hf hP hS hl
  unfold f_X8_shiftsFrom_b72 at hf
  refine lv_iinc (v := (v3 + (1 : Int32))) (lv' := [(3, .int (v3 + (1 : Int32))), (0, .ref (Γ.1 164)), (1, .int v1), (2, .int v2)]) C.1 C.2.1 (kd kX8_shiftsFrom_0 45 rfl) hl (k := 3) rfl rfl (Nat.le_of_ble_eq_true rfl) rfl (fun ls hl => ?_)
  refine lv_goto (tgt := 9) C.1 C.2.1 (kd kX8_shiftsFrom_0 46 rfl) (by decide) ?_
  exact hK9 (v1) (v2) ((v3 + (1 : Int32))) σ H locs ls hf hP hS (lv_sub hl [1, 2, 3, 0] rfl)
def f_X8_shiftsFrom_b9 : Nat → Int32 → Int32 → Int32 → fS → Option (fS)
  | 0, _, _, _, _ => none
  | n_ + 1, v1, v2, v3, σ => fb (122 : Int32) 277 ((if (σ 165 (122 : Int32).toNatClampNeg) ≤ v3 then some σ else fb v3 12 (fb (σ 171 v3.toNatClampNeg) 12 ((if (σ 173 (σ 171 v3.toNatClampNeg).toNatClampNeg) = 0 then fcall (f_X8_of (σ 171 v3.toNatClampNeg) (3 : Int32) σ) (fun r1_ σ1 => fcall (f_X8_of v1 (3 : Int32) σ1) (fun r2_ σ2 => (if r1_ ≤ r2_ then f_X8_shiftsFrom_b72 (fun v1 v2 v3 σ => f_X8_shiftsFrom_b9 n_ v1 v2 v3 σ) (v1) (v2) (v3) σ2 else fcallv (f_X8_waitsAt (σ 171 v3.toNatClampNeg) v2 σ2) (fun σ3 => fb v2 24 (fb v2 24 (fL (fu σ3 181 v2.toNatClampNeg ((σ3 181 v2.toNatClampNeg) + (1 : Int32))) (fun σ4 => some σ4))))))) else f_X8_shiftsFrom_b72 (fun v1 v2 v3 σ => f_X8_shiftsFrom_b9 n_ v1 v2 v3 σ) (v1) (v2) (v3) σ)))))
set_option maxRecDepth 100000 in
set_option maxHeartbeats 4000000 in
theorem w_X8_shiftsFrom_b9 {σ' : fS}  (C : fC Γ p s m args meth c cX8_shiftsFrom none RX8 5) : ∀ (n_ : Nat) (v1 : Int32) (v2 : Int32) (v3 : Int32) (σ : fS) (H : Heap) (locs : List Loc) (ls : Array Slot), f_X8_shiftsFrom_b9 n_ v1 v2 v3 σ = some σ' → fH Γ σ H → va_S (fAd Γ) s.heap H locs → lv_has ls 5 [(0, .ref (Γ.1 164)), (1, .int v1), (2, .int v2), (3, .int v3)] → W p l e ({ frames := 1, cells := 0, slots := 0, locals := 22 } : Room) s m args below meth c H locs 0 0 (MQ below (fQv Γ σ') args s 0 0 (fAd Γ)) (F0 m 9 ls []) := by
  intro n_
  induction n_ with
  | zero =>
    intro v1 v2 v3 σ H locs ls hf
    cases hf
  | succ n_ ih =>
    intro v1 v2 v3 σ H locs ls hf hP hS hl
    have hf : fb (122 : Int32) 277 ((if (σ 165 (122 : Int32).toNatClampNeg) ≤ v3 then some σ else fb v3 12 (fb (σ 171 v3.toNatClampNeg) 12 ((if (σ 173 (σ 171 v3.toNatClampNeg).toNatClampNeg) = 0 then fcall (f_X8_of (σ 171 v3.toNatClampNeg) (3 : Int32) σ) (fun r1_ σ1 => fcall (f_X8_of v1 (3 : Int32) σ1) (fun r2_ σ2 => (if r1_ ≤ r2_ then f_X8_shiftsFrom_b72 (fun v1 v2 v3 σ => f_X8_shiftsFrom_b9 n_ v1 v2 v3 σ) (v1) (v2) (v3) σ2 else fcallv (f_X8_waitsAt (σ 171 v3.toNatClampNeg) v2 σ2) (fun σ3 => fb v2 24 (fb v2 24 (fL (fu σ3 181 v2.toNatClampNeg ((σ3 181 v2.toNatClampNeg) + (1 : Int32))) (fun σ4 => some σ4))))))) else f_X8_shiftsFrom_b72 (fun v1 v2 v3 σ => f_X8_shiftsFrom_b9 n_ v1 v2 v3 σ) (v1) (v2) (v3) σ))))) = some σ' := hf
    have hK9 := ih
    refine lv_iload_n C.1 C.2.1 (kd kX8_shiftsFrom_0 7 rfl) rfl (lv_at hl 3 rfl) ?_
    refine lv_aload_n C.1 C.2.1 (kd kX8_shiftsFrom_0 8 rfl) rfl (lv_at hl 0 rfl) ?_
    refine fl_get (j := 0) (v := .ref (Γ.1 165)) C hP rfl (Nat.le_of_ble_eq_true rfl) rfl inX8 (Nat.le_of_ble_eq_true rfl) tw_862 rfl (kd kX8_shiftsFrom_0 9 rfl) ?_
    refine lv_bipush (v := (122 : Int32)) C.1 C.2.1 (kd kX8_shiftsFrom_0 10 rfl) (by decide) ?_
    obtain ⟨hq, hf⟩ := fb_some hf
    refine fl_iald C hP rfl hq (kd kX8_shiftsFrom_0 11 rfl) ?_
    refine lv_icmp_ge (tgt := 78) C.1 C.2.1 (kd kX8_shiftsFrom_0 12 rfl) (by decide) (fun q => ?_) (fun q => ?_)
    · have hf := fif_pos q hf
      exact fl_vret C hP hS hf (kd kX8_shiftsFrom_0 47 rfl)
    have hf := fif_neg q hf
    refine lv_aload_n C.1 C.2.1 (kd kX8_shiftsFrom_0 13 rfl) rfl (lv_at hl 0 rfl) ?_
    refine fl_get (j := 12) (v := .ref (Γ.1 171)) C hP rfl (Nat.le_of_ble_eq_true rfl) rfl inX8 (Nat.le_of_ble_eq_true rfl) tw_874 rfl (kd kX8_shiftsFrom_0 14 rfl) ?_
    refine lv_iload_n C.1 C.2.1 (kd kX8_shiftsFrom_0 15 rfl) rfl (lv_at hl 3 rfl) ?_
    obtain ⟨hq, hf⟩ := fb_some hf
    refine fl_iald C hP rfl hq (kd kX8_shiftsFrom_0 16 rfl) ?_
    refine lv_istore (lv' := [(4, .int (σ 171 v3.toNatClampNeg)), (0, .ref (Γ.1 164)), (1, .int v1), (2, .int v2), (3, .int v3)]) C.1 C.2.1 (kd kX8_shiftsFrom_0 17 rfl) hl (Nat.le_of_ble_eq_true rfl) rfl (fun ls hl => ?_)
    refine lv_aload_n C.1 C.2.1 (kd kX8_shiftsFrom_0 18 rfl) rfl (lv_at hl 1 rfl) ?_
    refine fl_get (j := 14) (v := .ref (Γ.1 173)) C hP rfl (Nat.le_of_ble_eq_true rfl) rfl inX8 (Nat.le_of_ble_eq_true rfl) tw_876 rfl (kd kX8_shiftsFrom_0 19 rfl) ?_
    refine lv_iload C.1 C.2.1 (kd kX8_shiftsFrom_0 20 rfl) (lv_at hl 0 rfl) ?_
    obtain ⟨hq, hf⟩ := fb_some hf
    refine fl_iald C hP rfl hq (kd kX8_shiftsFrom_0 21 rfl) ?_
    refine lv_if_ne (tgt := 72) C.1 C.2.1 (kd kX8_shiftsFrom_0 22 rfl) (by decide) (fun q => ?_) (fun q => ?_)
    · have hf := fif_neg q hf
      exact w_X8_shiftsFrom_b72 C hK9 (v1) (v2) (v3) σ H locs ls hf hP hS (lv_sub hl [1, 2, 3, 4] rfl)
    have hf := fif_pos q hf
    refine lv_aload_n C.1 C.2.1 (kd kX8_shiftsFrom_0 23 rfl) rfl (lv_at hl 1 rfl) ?_
    refine lv_iload C.1 C.2.1 (kd kX8_shiftsFrom_0 24 rfl) (lv_at hl 0 rfl) ?_
    refine lv_iconst (v := (3 : Int32)) C.1 C.2.1 (kd kX8_shiftsFrom_0 25 rfl) (by decide) ?_
    obtain ⟨r1_, σ1, hσ1, hf⟩ := fcall_some hf
    refine fl_i hS (fl_runV (As := [.int (σ 171 v3.toNatClampNeg), .int (3 : Int32)]) (rest := []) C hP rfl (Nat.le_of_ble_eq_true rfl) rfl (m_X8_of C.2.2.2.2.2.2.2.2 l  hσ1) (fgV tw_1118 tw_1120 tw_43 tw_75 tw_1121) hd_X8_of ⟨rfl, rfl, Nat.le_of_ble_eq_true rfl, Nat.le_of_ble_eq_true rfl⟩ rfl hl.1 rfl (Nat.le_of_ble_eq_true rfl) (kd kX8_shiftsFrom_0 26 rfl)) (fun H locs hP hS => ?_)
    refine lv_aload_n C.1 C.2.1 (kd kX8_shiftsFrom_0 27 rfl) rfl (lv_at hl 1 rfl) ?_
    refine lv_iload_n C.1 C.2.1 (kd kX8_shiftsFrom_0 28 rfl) rfl (lv_at hl 2 rfl) ?_
    refine lv_iconst (v := (3 : Int32)) C.1 C.2.1 (kd kX8_shiftsFrom_0 29 rfl) (by decide) ?_
    obtain ⟨r2_, σ2, hσ2, hf⟩ := fcall_some hf
    refine fl_i hS (fl_runV (As := [.int v1, .int (3 : Int32)]) (rest := [.int r1_]) C hP rfl (Nat.le_of_ble_eq_true rfl) rfl (m_X8_of C.2.2.2.2.2.2.2.2 l  hσ2) (fgV tw_1118 tw_1120 tw_43 tw_75 tw_1121) hd_X8_of ⟨rfl, rfl, Nat.le_of_ble_eq_true rfl, Nat.le_of_ble_eq_true rfl⟩ rfl hl.1 rfl (Nat.le_of_ble_eq_true rfl) (kd kX8_shiftsFrom_0 30 rfl)) (fun H locs hP hS => ?_)
    refine lv_icmp_le (tgt := 72) C.1 C.2.1 (kd kX8_shiftsFrom_0 31 rfl) (by decide) (fun q => ?_) (fun q => ?_)
    · have hf := fif_pos q hf
      exact w_X8_shiftsFrom_b72 C hK9 (v1) (v2) (v3) σ2 H locs ls hf hP hS (lv_sub hl [1, 2, 3, 4] rfl)
    have hf := fif_neg q hf
    refine lv_aload_n C.1 C.2.1 (kd kX8_shiftsFrom_0 32 rfl) rfl (lv_at hl 1 rfl) ?_
    refine lv_iload C.1 C.2.1 (kd kX8_shiftsFrom_0 33 rfl) (lv_at hl 0 rfl) ?_
    refine lv_iload_n C.1 C.2.1 (kd kX8_shiftsFrom_0 34 rfl) rfl (lv_at hl 3 rfl) ?_
    obtain ⟨σ3, hσ3, hf⟩ := fcallv_some hf
    refine fl_v hS (fl_runV (As := [.int (σ 171 v3.toNatClampNeg), .int v2]) (rest := []) C hP rfl (Nat.le_of_ble_eq_true rfl) rfl (m_X8_waitsAt C.2.2.2.2.2.2.2.2 l  hσ3) (fgV tw_1167 tw_1169 tw_55 tw_75 tw_1170) hd_X8_waitsAt ⟨rfl, rfl, Nat.le_of_ble_eq_true rfl, Nat.le_of_ble_eq_true rfl⟩ rfl hl.1 rfl (Nat.le_of_ble_eq_true rfl) (kd kX8_shiftsFrom_0 35 rfl)) (fun H locs hP hS => ?_)
    refine lv_aload_n C.1 C.2.1 (kd kX8_shiftsFrom_0 36 rfl) rfl (lv_at hl 1 rfl) ?_
    refine fl_get (j := 22) (v := .ref (Γ.1 181)) C hP rfl (Nat.le_of_ble_eq_true rfl) rfl inX8 (Nat.le_of_ble_eq_true rfl) tw_884 rfl (kd kX8_shiftsFrom_0 37 rfl) ?_
    refine lv_iload_n C.1 C.2.1 (kd kX8_shiftsFrom_0 38 rfl) rfl (lv_at hl 3 rfl) ?_
    refine lv_dup2_11 C.1 C.2.1 (kd kX8_shiftsFrom_0 39 rfl) rfl rfl ?_
    obtain ⟨hq, hf⟩ := fb_some hf
    refine fl_iald C hP rfl hq (kd kX8_shiftsFrom_0 40 rfl) ?_
    refine lv_iconst (v := (1 : Int32)) C.1 C.2.1 (kd kX8_shiftsFrom_0 41 rfl) (by decide) ?_
    refine lv_iadd C.1 C.2.1 (kd kX8_shiftsFrom_0 42 rfl) ?_
    obtain ⟨hq, hf⟩ := fb_some hf
    obtain ⟨σ4, eσ4, hf⟩ := fL_some hf
    refine fl_iast C hP hS rfl hq (kd kX8_shiftsFrom_0 43 rfl) (fun H locs hP hS => ?_)
    have hP : fH Γ σ4 H := by rw [eσ4]; exact hP
    exact fl_vret C hP hS hf (kd kX8_shiftsFrom_0 44 rfl)
def f_X8_shiftsFrom (x1 : Int32) (x2 : Int32) (σ : fS) : Option (fS) := fb x1 12 (f_X8_shiftsFrom_b9 fN (x1) (x2) (((σ 172 x1.toNatClampNeg) + (1 : Int32))) σ)
set_option maxRecDepth 100000 in
set_option maxHeartbeats 4000000 in
theorem m_X8_shiftsFrom {Γ : fGm} (hI : fI Γ) (l : Launch) {x1 : Int32} {x2 : Int32} {σ : fS} {σ' : fS} (hf : f_X8_shiftsFrom x1 x2 σ = some σ') : Met l yX8_shiftsFrom (.code yX8_shiftsFrom cX8_shiftsFrom 5 none :: lw_g) ({ frames := 1, cells := 0, slots := 0, locals := 22 } : Room) (fPre Γ [.ref (Γ.1 164), .int x1, .int x2] σ) (fQv Γ σ') 0 0 (fAd Γ) := by
  refine fl_enter (own := RX8) hI (by decide +kernel) rfl (Nat.le_of_ble_eq_true rfl) ?_
  intro p e s m args below meth c ls C hl hP hS
  have hl : lv_has ls 5 [(0, .ref (Γ.1 164)), (1, .int x1), (2, .int x2)] := hl
  obtain ⟨H, hH⟩ : ∃ H, H = s.heap := ⟨_, rfl⟩
  obtain ⟨locs, hL⟩ : ∃ L : List Loc, L = [] := ⟨_, rfl⟩
  have hP : fH Γ σ H := by rw [hH]; exact hP
  have hS : va_S (fAd Γ) s.heap H locs := by rw [hH, hL]; exact hS
  suffices hw : W p l e ({ frames := 1, cells := 0, slots := 0, locals := 22 } : Room) s m args below meth c H locs 0 0 (MQ below (fQv Γ σ') args s 0 0 (fAd Γ)) (F0 m 0 ls []) by rw [hH, hL] at hw; exact hw
  unfold f_X8_shiftsFrom at hf
  refine lv_aload_n C.1 C.2.1 (kd kX8_shiftsFrom_0 0 rfl) rfl (lv_at hl 0 rfl) ?_
  refine fl_get (j := 13) (v := .ref (Γ.1 172)) C hP rfl (Nat.le_of_ble_eq_true rfl) rfl inX8 (Nat.le_of_ble_eq_true rfl) tw_875 rfl (kd kX8_shiftsFrom_0 1 rfl) ?_
  refine lv_iload_n C.1 C.2.1 (kd kX8_shiftsFrom_0 2 rfl) rfl (lv_at hl 1 rfl) ?_
  obtain ⟨hq, hf⟩ := fb_some hf
  refine fl_iald C hP rfl hq (kd kX8_shiftsFrom_0 3 rfl) ?_
  refine lv_iconst (v := (1 : Int32)) C.1 C.2.1 (kd kX8_shiftsFrom_0 4 rfl) (by decide) ?_
  refine lv_iadd C.1 C.2.1 (kd kX8_shiftsFrom_0 5 rfl) ?_
  refine lv_istore_n (lv' := [(3, .int ((σ 172 x1.toNatClampNeg) + (1 : Int32))), (0, .ref (Γ.1 164)), (1, .int x1), (2, .int x2)]) C.1 C.2.1 (kd kX8_shiftsFrom_0 6 rfl) rfl hl (Nat.le_of_ble_eq_true rfl) rfl (fun ls hl => ?_)
  exact w_X8_shiftsFrom_b9 C fN (x1) (x2) (((σ 172 x1.toNatClampNeg) + (1 : Int32))) σ H locs ls hf hP hS (lv_sub hl [1, 2, 3, 0] rfl)
def f_X8_loads_b19 (v1 : Int32) (v2 : Int32) (s0 : Int32) (σ : fS) : Option (fS) := (if s0 = (-1 : Int32) then fcallv (f_X8_shiftsFrom v1 v2 σ) (fun σ8 => some σ8) else fb v2 24 (fL (fu σ 178 v2.toNatClampNeg v1) (fun σ1 => fb v2 24 (fL (fu σ1 179 v2.toNatClampNeg s0) (fun σ2 => fb (((4 : Int32) * v1) + s0) 48 (fb v2 24 (fL (fu σ2 180 v2.toNatClampNeg (σ2 182 (((4 : Int32) * v1) + s0).toNatClampNeg)) (fun σ3 => fb (((4 : Int32) * v1) + s0) 48 (fb (((24 : Int32) * (((4 : Int32) * v1) + s0)) + (σ3 182 (((4 : Int32) * v1) + s0).toNatClampNeg)) 1152 (fL (fu σ3 183 (((24 : Int32) * (((4 : Int32) * v1) + s0)) + (σ3 182 (((4 : Int32) * v1) + s0).toNatClampNeg)).toNatClampNeg v2) (fun σ4 => fb (((4 : Int32) * v1) + s0) 48 (fb (((4 : Int32) * v1) + s0) 48 (fL (fu σ4 182 (((4 : Int32) * v1) + s0).toNatClampNeg ((σ4 182 (((4 : Int32) * v1) + s0).toNatClampNeg) + (1 : Int32))) (fun σ5 => fb (((4 : Int32) * v1) + s0) 48 (fcall (f_X8_vehicleOf v2 (1 : Int32) σ5) (fun r6_ σ6 => fb (((4 : Int32) * v1) + s0) 48 (fL (fu σ6 184 (((4 : Int32) * v1) + s0).toNatClampNeg ((σ5 184 (((4 : Int32) * v1) + s0).toNatClampNeg) - r6_)) (fun σ7 => some σ7))))))))))))))))))
set_option maxRecDepth 100000 in
set_option maxHeartbeats 4000000 in
theorem w_X8_loads_b19 {σ' : fS}  (C : fC Γ p s m args meth c cX8_loads none RX8 5) : ∀ (v1 : Int32) (v2 : Int32) (s0 : Int32) (σ : fS) (H : Heap) (locs : List Loc) (ls : Array Slot), f_X8_loads_b19 v1 v2 s0 σ = some σ' → fH Γ σ H → va_S (fAd Γ) s.heap H locs → lv_has ls 5 [(0, .ref (Γ.1 164)), (1, .int v1), (2, .int v2)] → W p l e ({ frames := 2, cells := 0, slots := 0, locals := 50 } : Room) s m args below meth c H locs 0 0 (MQ below (fQv Γ σ') args s 0 0 (fAd Γ)) (F0 m 19 ls [.int s0]) := by
  intro v1 v2 s0 σ H locs ls hf hP hS hl
  unfold f_X8_loads_b19 at hf
  refine lv_istore_n (lv' := [(3, .int s0), (0, .ref (Γ.1 164)), (1, .int v1), (2, .int v2)]) C.1 C.2.1 (kd kX8_loads_0 11 rfl) rfl hl (Nat.le_of_ble_eq_true rfl) rfl (fun ls hl => ?_)
  refine lv_iload_n C.1 C.2.1 (kd kX8_loads_0 12 rfl) rfl (lv_at hl 0 rfl) ?_
  refine lv_iconst (v := (-1 : Int32)) C.1 C.2.1 (kd kX8_loads_0 13 rfl) (by decide) ?_
  refine lv_icmp_ne (tgt := 32) C.1 C.2.1 (kd kX8_loads_0 14 rfl) (by decide) (fun q => ?_) (fun q => ?_)
  · have hf := fif_neg q hf
    refine lv_iconst (v := (4 : Int32)) C.1 C.2.1 (kd kX8_loads_0 20 rfl) (by decide) ?_
    refine lv_iload_n C.1 C.2.1 (kd kX8_loads_0 21 rfl) rfl (lv_at hl 2 rfl) ?_
    refine lv_imul C.1 C.2.1 (kd kX8_loads_0 22 rfl) ?_
    refine lv_iload_n C.1 C.2.1 (kd kX8_loads_0 23 rfl) rfl (lv_at hl 0 rfl) ?_
    refine lv_iadd C.1 C.2.1 (kd kX8_loads_0 24 rfl) ?_
    refine lv_istore (lv' := [(4, .int (((4 : Int32) * v1) + s0)), (3, .int s0), (0, .ref (Γ.1 164)), (1, .int v1), (2, .int v2)]) C.1 C.2.1 (kd kX8_loads_0 25 rfl) hl (Nat.le_of_ble_eq_true rfl) rfl (fun ls hl => ?_)
    refine lv_aload_n C.1 C.2.1 (kd kX8_loads_0 26 rfl) rfl (lv_at hl 2 rfl) ?_
    refine fl_get (j := 19) (v := .ref (Γ.1 178)) C hP rfl (Nat.le_of_ble_eq_true rfl) rfl inX8 (Nat.le_of_ble_eq_true rfl) tw_881 rfl (kd kX8_loads_0 27 rfl) ?_
    refine lv_iload_n C.1 C.2.1 (kd kX8_loads_0 28 rfl) rfl (lv_at hl 4 rfl) ?_
    refine lv_iload_n C.1 C.2.1 (kd kX8_loads_0 29 rfl) rfl (lv_at hl 3 rfl) ?_
    obtain ⟨hq, hf⟩ := fb_some hf
    obtain ⟨σ1, eσ1, hf⟩ := fL_some hf
    refine fl_iast C hP hS rfl hq (kd kX8_loads_0 30 rfl) (fun H locs hP hS => ?_)
    have hP : fH Γ σ1 H := by rw [eσ1]; exact hP
    refine lv_aload_n C.1 C.2.1 (kd kX8_loads_0 31 rfl) rfl (lv_at hl 2 rfl) ?_
    refine fl_get (j := 20) (v := .ref (Γ.1 179)) C hP rfl (Nat.le_of_ble_eq_true rfl) rfl inX8 (Nat.le_of_ble_eq_true rfl) tw_882 rfl (kd kX8_loads_0 32 rfl) ?_
    refine lv_iload_n C.1 C.2.1 (kd kX8_loads_0 33 rfl) rfl (lv_at hl 4 rfl) ?_
    refine lv_iload_n C.1 C.2.1 (kd kX8_loads_0 34 rfl) rfl (lv_at hl 1 rfl) ?_
    obtain ⟨hq, hf⟩ := fb_some hf
    obtain ⟨σ2, eσ2, hf⟩ := fL_some hf
    refine fl_iast C hP hS rfl hq (kd kX8_loads_0 35 rfl) (fun H locs hP hS => ?_)
    have hP : fH Γ σ2 H := by rw [eσ2]; exact hP
    refine lv_aload_n C.1 C.2.1 (kd kX8_loads_0 36 rfl) rfl (lv_at hl 2 rfl) ?_
    refine fl_get (j := 21) (v := .ref (Γ.1 180)) C hP rfl (Nat.le_of_ble_eq_true rfl) rfl inX8 (Nat.le_of_ble_eq_true rfl) tw_883 rfl (kd kX8_loads_0 37 rfl) ?_
    refine lv_iload_n C.1 C.2.1 (kd kX8_loads_0 38 rfl) rfl (lv_at hl 4 rfl) ?_
    refine lv_aload_n C.1 C.2.1 (kd kX8_loads_0 39 rfl) rfl (lv_at hl 2 rfl) ?_
    refine fl_get (j := 23) (v := .ref (Γ.1 182)) C hP rfl (Nat.le_of_ble_eq_true rfl) rfl inX8 (Nat.le_of_ble_eq_true rfl) tw_885 rfl (kd kX8_loads_0 40 rfl) ?_
    refine lv_iload C.1 C.2.1 (kd kX8_loads_0 41 rfl) (lv_at hl 0 rfl) ?_
    obtain ⟨hq, hf⟩ := fb_some hf
    refine fl_iald C hP rfl hq (kd kX8_loads_0 42 rfl) ?_
    obtain ⟨hq, hf⟩ := fb_some hf
    obtain ⟨σ3, eσ3, hf⟩ := fL_some hf
    refine fl_iast C hP hS rfl hq (kd kX8_loads_0 43 rfl) (fun H locs hP hS => ?_)
    have hP : fH Γ σ3 H := by rw [eσ3]; exact hP
    refine lv_aload_n C.1 C.2.1 (kd kX8_loads_0 44 rfl) rfl (lv_at hl 2 rfl) ?_
    refine fl_get (j := 24) (v := .ref (Γ.1 183)) C hP rfl (Nat.le_of_ble_eq_true rfl) rfl inX8 (Nat.le_of_ble_eq_true rfl) tw_886 rfl (kd kX8_loads_0 45 rfl) ?_
    refine lv_bipush (v := (24 : Int32)) C.1 C.2.1 (kd kX8_loads_0 46 rfl) (by decide) ?_
    refine lv_iload C.1 C.2.1 (kd kX8_loads_0 47 rfl) (lv_at hl 0 rfl) ?_
    refine lv_imul C.1 C.2.1 (kd kX8_loads_0 48 rfl) ?_
    refine lv_aload_n C.1 C.2.1 (kd kX8_loads_0 49 rfl) rfl (lv_at hl 2 rfl) ?_
    refine fl_get (j := 23) (v := .ref (Γ.1 182)) C hP rfl (Nat.le_of_ble_eq_true rfl) rfl inX8 (Nat.le_of_ble_eq_true rfl) tw_885 rfl (kd kX8_loads_0 50 rfl) ?_
    refine lv_iload C.1 C.2.1 (kd kX8_loads_0 51 rfl) (lv_at hl 0 rfl) ?_
    obtain ⟨hq, hf⟩ := fb_some hf
    refine fl_iald C hP rfl hq (kd kX8_loads_0 52 rfl) ?_
    refine lv_iadd C.1 C.2.1 (kd kX8_loads_0 53 rfl) ?_
    refine lv_iload_n C.1 C.2.1 (kd kX8_loads_0 54 rfl) rfl (lv_at hl 4 rfl) ?_
    obtain ⟨hq, hf⟩ := fb_some hf
    obtain ⟨σ4, eσ4, hf⟩ := fL_some hf
    refine fl_iast C hP hS rfl hq (kd kX8_loads_0 55 rfl) (fun H locs hP hS => ?_)
    have hP : fH Γ σ4 H := by rw [eσ4]; exact hP
    refine lv_aload_n C.1 C.2.1 (kd kX8_loads_0 56 rfl) rfl (lv_at hl 2 rfl) ?_
    refine fl_get (j := 23) (v := .ref (Γ.1 182)) C hP rfl (Nat.le_of_ble_eq_true rfl) rfl inX8 (Nat.le_of_ble_eq_true rfl) tw_885 rfl (kd kX8_loads_0 57 rfl) ?_
    refine lv_iload C.1 C.2.1 (kd kX8_loads_0 58 rfl) (lv_at hl 0 rfl) ?_
    refine lv_dup2_11 C.1 C.2.1 (kd kX8_loads_0 59 rfl) rfl rfl ?_
    obtain ⟨hq, hf⟩ := fb_some hf
    refine fl_iald C hP rfl hq (kd kX8_loads_1 0 rfl) ?_
    refine lv_iconst (v := (1 : Int32)) C.1 C.2.1 (kd kX8_loads_1 1 rfl) (by decide) ?_
    refine lv_iadd C.1 C.2.1 (kd kX8_loads_1 2 rfl) ?_
    obtain ⟨hq, hf⟩ := fb_some hf
    obtain ⟨σ5, eσ5, hf⟩ := fL_some hf
    refine fl_iast C hP hS rfl hq (kd kX8_loads_1 3 rfl) (fun H locs hP hS => ?_)
    have hP : fH Γ σ5 H := by rw [eσ5]; exact hP
    refine lv_aload_n C.1 C.2.1 (kd kX8_loads_1 4 rfl) rfl (lv_at hl 2 rfl) ?_
    refine fl_get (j := 25) (v := .ref (Γ.1 184)) C hP rfl (Nat.le_of_ble_eq_true rfl) rfl inX8 (Nat.le_of_ble_eq_true rfl) tw_887 rfl (kd kX8_loads_1 5 rfl) ?_
    refine lv_iload C.1 C.2.1 (kd kX8_loads_1 6 rfl) (lv_at hl 0 rfl) ?_
    refine lv_dup2_11 C.1 C.2.1 (kd kX8_loads_1 7 rfl) rfl rfl ?_
    obtain ⟨hq, hf⟩ := fb_some hf
    refine fl_iald C hP rfl hq (kd kX8_loads_1 8 rfl) ?_
    refine lv_aload_n C.1 C.2.1 (kd kX8_loads_1 9 rfl) rfl (lv_at hl 2 rfl) ?_
    refine lv_iload_n C.1 C.2.1 (kd kX8_loads_1 10 rfl) rfl (lv_at hl 4 rfl) ?_
    refine lv_iconst (v := (1 : Int32)) C.1 C.2.1 (kd kX8_loads_1 11 rfl) (by decide) ?_
    obtain ⟨r6_, σ6, hσ6, hf⟩ := fcall_some hf
    refine fl_i hS (fl_runV (As := [.int v2, .int (1 : Int32)]) (rest := [.int (σ5 184 (((4 : Int32) * v1) + s0).toNatClampNeg), .int (((4 : Int32) * v1) + s0), .ref (Γ.1 184)]) C hP rfl (Nat.le_of_ble_eq_true rfl) rfl (m_X8_vehicleOf C.2.2.2.2.2.2.2.2 l  hσ6) (fgV tw_1163 tw_1165 tw_54 tw_75 tw_1166) hd_X8_vehicleOf ⟨rfl, rfl, Nat.le_of_ble_eq_true rfl, Nat.le_of_ble_eq_true rfl⟩ rfl hl.1 rfl (Nat.le_of_ble_eq_true rfl) (kd kX8_loads_1 12 rfl)) (fun H locs hP hS => ?_)
    refine lv_isub C.1 C.2.1 (kd kX8_loads_1 13 rfl) ?_
    obtain ⟨hq, hf⟩ := fb_some hf
    obtain ⟨σ7, eσ7, hf⟩ := fL_some hf
    refine fl_iast C hP hS rfl hq (kd kX8_loads_1 14 rfl) (fun H locs hP hS => ?_)
    have hP : fH Γ σ7 H := by rw [eσ7]; exact hP
    exact fl_vret C hP hS hf (kd kX8_loads_1 15 rfl)
  have hf := fif_pos q hf
  refine lv_aload_n C.1 C.2.1 (kd kX8_loads_0 15 rfl) rfl (lv_at hl 1 rfl) ?_
  refine lv_iload_n C.1 C.2.1 (kd kX8_loads_0 16 rfl) rfl (lv_at hl 2 rfl) ?_
  refine lv_iload_n C.1 C.2.1 (kd kX8_loads_0 17 rfl) rfl (lv_at hl 3 rfl) ?_
  obtain ⟨σ8, hσ8, hf⟩ := fcallv_some hf
  refine fl_v hS (fl_runV (As := [.int v1, .int v2]) (rest := []) C hP rfl (Nat.le_of_ble_eq_true rfl) rfl (m_X8_shiftsFrom C.2.2.2.2.2.2.2.2 l  hσ8) (fgV tw_1179 tw_1181 tw_58 tw_75 tw_1182) hd_X8_shiftsFrom ⟨rfl, rfl, Nat.le_of_ble_eq_true rfl, Nat.le_of_ble_eq_true rfl⟩ rfl hl.1 rfl (Nat.le_of_ble_eq_true rfl) (kd kX8_loads_0 18 rfl)) (fun H locs hP hS => ?_)
  exact fl_vret C hP hS hf (kd kX8_loads_0 19 rfl)
def f_X8_loads (x1 : Int32) (x2 : Int32) (σ : fS) : Option (fS) := fb x1 12 ((if (σ 173 x1.toNatClampNeg) = 0 then fcall (f_X8_laneFor x1 x2 σ) (fun r1_ σ1 => f_X8_loads_b19 (x1) (x2) (r1_) σ1) else f_X8_loads_b19 (x1) (x2) ((-1 : Int32)) σ))
set_option maxRecDepth 100000 in
set_option maxHeartbeats 4000000 in
theorem m_X8_loads {Γ : fGm} (hI : fI Γ) (l : Launch) {x1 : Int32} {x2 : Int32} {σ : fS} {σ' : fS} (hf : f_X8_loads x1 x2 σ = some σ') : Met l yX8_loads (.code yX8_loads cX8_loads 5 none :: lw_g) ({ frames := 2, cells := 0, slots := 0, locals := 50 } : Room) (fPre Γ [.ref (Γ.1 164), .int x1, .int x2] σ) (fQv Γ σ') 0 0 (fAd Γ) := by
  refine fl_enter (own := RX8) hI (by decide +kernel) rfl (Nat.le_of_ble_eq_true rfl) ?_
  intro p e s m args below meth c ls C hl hP hS
  have hl : lv_has ls 5 [(0, .ref (Γ.1 164)), (1, .int x1), (2, .int x2)] := hl
  obtain ⟨H, hH⟩ : ∃ H, H = s.heap := ⟨_, rfl⟩
  obtain ⟨locs, hL⟩ : ∃ L : List Loc, L = [] := ⟨_, rfl⟩
  have hP : fH Γ σ H := by rw [hH]; exact hP
  have hS : va_S (fAd Γ) s.heap H locs := by rw [hH, hL]; exact hS
  suffices hw : W p l e ({ frames := 2, cells := 0, slots := 0, locals := 50 } : Room) s m args below meth c H locs 0 0 (MQ below (fQv Γ σ') args s 0 0 (fAd Γ)) (F0 m 0 ls []) by rw [hH, hL] at hw; exact hw
  unfold f_X8_loads at hf
  refine lv_aload_n C.1 C.2.1 (kd kX8_loads_0 0 rfl) rfl (lv_at hl 0 rfl) ?_
  refine fl_get (j := 14) (v := .ref (Γ.1 173)) C hP rfl (Nat.le_of_ble_eq_true rfl) rfl inX8 (Nat.le_of_ble_eq_true rfl) tw_876 rfl (kd kX8_loads_0 1 rfl) ?_
  refine lv_iload_n C.1 C.2.1 (kd kX8_loads_0 2 rfl) rfl (lv_at hl 1 rfl) ?_
  obtain ⟨hq, hf⟩ := fb_some hf
  refine fl_iald C hP rfl hq (kd kX8_loads_0 3 rfl) ?_
  refine lv_if_ne (tgt := 18) C.1 C.2.1 (kd kX8_loads_0 4 rfl) (by decide) (fun q => ?_) (fun q => ?_)
  · have hf := fif_neg q hf
    refine lv_iconst (v := (-1 : Int32)) C.1 C.2.1 (kd kX8_loads_0 10 rfl) (by decide) ?_
    exact w_X8_loads_b19 C (x1) (x2) ((-1 : Int32)) σ H locs ls hf hP hS (lv_sub hl [0, 1, 2] rfl)
  have hf := fif_pos q hf
  refine lv_aload_n C.1 C.2.1 (kd kX8_loads_0 5 rfl) rfl (lv_at hl 0 rfl) ?_
  refine lv_iload_n C.1 C.2.1 (kd kX8_loads_0 6 rfl) rfl (lv_at hl 1 rfl) ?_
  refine lv_iload_n C.1 C.2.1 (kd kX8_loads_0 7 rfl) rfl (lv_at hl 2 rfl) ?_
  obtain ⟨r1_, σ1, hσ1, hf⟩ := fcall_some hf
  refine fl_i hS (fl_runV (As := [.int x1, .int x2]) (rest := []) C hP rfl (Nat.le_of_ble_eq_true rfl) rfl (m_X8_laneFor C.2.2.2.2.2.2.2.2 l  hσ1) (fgV tw_1175 tw_1177 tw_57 tw_75 tw_1178) hd_X8_laneFor ⟨rfl, rfl, Nat.le_of_ble_eq_true rfl, Nat.le_of_ble_eq_true rfl⟩ rfl hl.1 rfl (Nat.le_of_ble_eq_true rfl) (kd kX8_loads_0 8 rfl)) (fun H locs hP hS => ?_)
  refine lv_goto (tgt := 19) C.1 C.2.1 (kd kX8_loads_0 9 rfl) (by decide) ?_
  exact w_X8_loads_b19 C (x1) (x2) (r1_) σ1 H locs ls hf hP hS (lv_sub hl [0, 1, 2] rfl)
def f_X8_tell_b55 (K35 : Int32 → fS → Option (fS)) : Nat → Int32 → Int32 → fS → Option (fS)
  | 0, _, _, _ => none
  | n_ + 1, v1, v2, σ => (if (4 : Int32) ≤ v2 then K35 ((v1 + (1 : Int32))) σ else fb (((4 : Int32) * v1) + v2) 48 (fL (fu σ 182 (((4 : Int32) * v1) + v2).toNatClampNeg (0 : Int32)) (fun σ1 => fcall (f_X8_of v1 (0 : Int32) σ1) (fun r2_ σ2 => fcall (f_X8_shipOf r2_ (2 : Int32) σ2) (fun r3_ σ3 => fb (((4 : Int32) * v1) + v2) 48 (fL (fu σ3 184 (((4 : Int32) * v1) + v2).toNatClampNeg r3_) (fun σ4 => (fun v1 v2 σ => f_X8_tell_b55 K35 n_ v1 v2 σ) (v1) ((v2 + (1 : Int32))) σ4)))))))
set_option maxRecDepth 100000 in
set_option maxHeartbeats 4000000 in
theorem w_X8_tell_b55 {σ' : fS} {K35 : Int32 → fS → Option (fS)}  (C : fC Γ p s m args meth c cX8_tell none RX8 4) (hK35 : ∀ (v1 : Int32) (σ : fS) (H : Heap) (locs : List Loc) (ls : Array Slot), K35 v1 σ = some σ' → fH Γ σ H → va_S (fAd Γ) s.heap H locs → lv_has ls 4 [(0, .ref (Γ.1 164)), (1, .int v1)] → W p l e ({ frames := 6, cells := 0, slots := 0, locals := 140 } : Room) s m args below meth c H locs 0 0 (MQ below (fQv Γ σ') args s 0 0 (fAd Γ)) (F0 m 35 ls [])) : ∀ (n_ : Nat) (v1 : Int32) (v2 : Int32) (σ : fS) (H : Heap) (locs : List Loc) (ls : Array Slot), f_X8_tell_b55 K35 n_ v1 v2 σ = some σ' → fH Γ σ H → va_S (fAd Γ) s.heap H locs → lv_has ls 4 [(0, .ref (Γ.1 164)), (1, .int v1), (2, .int v2)] → W p l e ({ frames := 6, cells := 0, slots := 0, locals := 140 } : Room) s m args below meth c H locs 0 0 (MQ below (fQv Γ σ') args s 0 0 (fAd Γ)) (F0 m 55 ls []) := by
  intro n_
  induction n_ with
  | zero =>
    intro v1 v2 σ H locs ls hf
    cases hf
  | succ n_ ih =>
    intro v1 v2 σ H locs ls hf hP hS hl
    have hf : (if (4 : Int32) ≤ v2 then K35 ((v1 + (1 : Int32))) σ else fb (((4 : Int32) * v1) + v2) 48 (fL (fu σ 182 (((4 : Int32) * v1) + v2).toNatClampNeg (0 : Int32)) (fun σ1 => fcall (f_X8_of v1 (0 : Int32) σ1) (fun r2_ σ2 => fcall (f_X8_shipOf r2_ (2 : Int32) σ2) (fun r3_ σ3 => fb (((4 : Int32) * v1) + v2) 48 (fL (fu σ3 184 (((4 : Int32) * v1) + v2).toNatClampNeg r3_) (fun σ4 => (fun v1 v2 σ => f_X8_tell_b55 K35 n_ v1 v2 σ) (v1) ((v2 + (1 : Int32))) σ4))))))) = some σ' := hf
    have hK55 := ih
    refine lv_iload_n C.1 C.2.1 (kd kX8_tell_0 33 rfl) rfl (lv_at hl 2 rfl) ?_
    refine lv_iconst (v := (4 : Int32)) C.1 C.2.1 (kd kX8_tell_0 34 rfl) (by decide) ?_
    refine lv_icmp_ge (tgt := 98) C.1 C.2.1 (kd kX8_tell_0 35 rfl) (by decide) (fun q => ?_) (fun q => ?_)
    · have hf := fif_pos q hf
      refine lv_iinc (v := (v1 + (1 : Int32))) (lv' := [(1, .int (v1 + (1 : Int32))), (0, .ref (Γ.1 164)), (2, .int v2)]) C.1 C.2.1 (kd kX8_tell_1 2 rfl) hl (k := 1) rfl rfl (Nat.le_of_ble_eq_true rfl) rfl (fun ls hl => ?_)
      refine lv_goto (tgt := 35) C.1 C.2.1 (kd kX8_tell_1 3 rfl) (by decide) ?_
      exact hK35 ((v1 + (1 : Int32))) σ H locs ls hf hP hS (lv_sub hl [1, 0] rfl)
    have hf := fif_neg q hf
    refine lv_aload_n C.1 C.2.1 (kd kX8_tell_0 36 rfl) rfl (lv_at hl 0 rfl) ?_
    refine fl_get (j := 23) (v := .ref (Γ.1 182)) C hP rfl (Nat.le_of_ble_eq_true rfl) rfl inX8 (Nat.le_of_ble_eq_true rfl) tw_885 rfl (kd kX8_tell_0 37 rfl) ?_
    refine lv_iconst (v := (4 : Int32)) C.1 C.2.1 (kd kX8_tell_0 38 rfl) (by decide) ?_
    refine lv_iload_n C.1 C.2.1 (kd kX8_tell_0 39 rfl) rfl (lv_at hl 1 rfl) ?_
    refine lv_imul C.1 C.2.1 (kd kX8_tell_0 40 rfl) ?_
    refine lv_iload_n C.1 C.2.1 (kd kX8_tell_0 41 rfl) rfl (lv_at hl 2 rfl) ?_
    refine lv_iadd C.1 C.2.1 (kd kX8_tell_0 42 rfl) ?_
    refine lv_iconst (v := (0 : Int32)) C.1 C.2.1 (kd kX8_tell_0 43 rfl) (by decide) ?_
    obtain ⟨hq, hf⟩ := fb_some hf
    obtain ⟨σ1, eσ1, hf⟩ := fL_some hf
    refine fl_iast C hP hS rfl hq (kd kX8_tell_0 44 rfl) (fun H locs hP hS => ?_)
    have hP : fH Γ σ1 H := by rw [eσ1]; exact hP
    refine lv_aload_n C.1 C.2.1 (kd kX8_tell_0 45 rfl) rfl (lv_at hl 0 rfl) ?_
    refine fl_get (j := 25) (v := .ref (Γ.1 184)) C hP rfl (Nat.le_of_ble_eq_true rfl) rfl inX8 (Nat.le_of_ble_eq_true rfl) tw_887 rfl (kd kX8_tell_0 46 rfl) ?_
    refine lv_iconst (v := (4 : Int32)) C.1 C.2.1 (kd kX8_tell_0 47 rfl) (by decide) ?_
    refine lv_iload_n C.1 C.2.1 (kd kX8_tell_0 48 rfl) rfl (lv_at hl 1 rfl) ?_
    refine lv_imul C.1 C.2.1 (kd kX8_tell_0 49 rfl) ?_
    refine lv_iload_n C.1 C.2.1 (kd kX8_tell_0 50 rfl) rfl (lv_at hl 2 rfl) ?_
    refine lv_iadd C.1 C.2.1 (kd kX8_tell_0 51 rfl) ?_
    refine lv_aload_n C.1 C.2.1 (kd kX8_tell_0 52 rfl) rfl (lv_at hl 0 rfl) ?_
    refine lv_aload_n C.1 C.2.1 (kd kX8_tell_0 53 rfl) rfl (lv_at hl 0 rfl) ?_
    refine lv_iload_n C.1 C.2.1 (kd kX8_tell_0 54 rfl) rfl (lv_at hl 1 rfl) ?_
    refine lv_iconst (v := (0 : Int32)) C.1 C.2.1 (kd kX8_tell_0 55 rfl) (by decide) ?_
    obtain ⟨r2_, σ2, hσ2, hf⟩ := fcall_some hf
    refine fl_i hS (fl_runV (As := [.int v1, .int (0 : Int32)]) (rest := [.ref (Γ.1 164), .int (((4 : Int32) * v1) + v2), .ref (Γ.1 184)]) C hP rfl (Nat.le_of_ble_eq_true rfl) rfl (m_X8_of C.2.2.2.2.2.2.2.2 l  hσ2) (fgV tw_1118 tw_1120 tw_43 tw_75 tw_1121) hd_X8_of ⟨rfl, rfl, Nat.le_of_ble_eq_true rfl, Nat.le_of_ble_eq_true rfl⟩ rfl hl.1 rfl (Nat.le_of_ble_eq_true rfl) (kd kX8_tell_0 56 rfl)) (fun H locs hP hS => ?_)
    refine lv_iconst (v := (2 : Int32)) C.1 C.2.1 (kd kX8_tell_0 57 rfl) (by decide) ?_
    obtain ⟨r3_, σ3, hσ3, hf⟩ := fcall_some hf
    refine fl_i hS (fl_runV (As := [.int r2_, .int (2 : Int32)]) (rest := [.int (((4 : Int32) * v1) + v2), .ref (Γ.1 184)]) C hP rfl (Nat.le_of_ble_eq_true rfl) rfl (m_X8_shipOf C.2.2.2.2.2.2.2.2 l  hσ3) (fgV tw_1102 tw_1104 tw_39 tw_75 tw_1105) hd_X8_shipOf ⟨rfl, rfl, Nat.le_of_ble_eq_true rfl, Nat.le_of_ble_eq_true rfl⟩ rfl hl.1 rfl (Nat.le_of_ble_eq_true rfl) (kd kX8_tell_0 58 rfl)) (fun H locs hP hS => ?_)
    obtain ⟨hq, hf⟩ := fb_some hf
    obtain ⟨σ4, eσ4, hf⟩ := fL_some hf
    refine fl_iast C hP hS rfl hq (kd kX8_tell_0 59 rfl) (fun H locs hP hS => ?_)
    have hP : fH Γ σ4 H := by rw [eσ4]; exact hP
    refine lv_iinc (v := (v2 + (1 : Int32))) (lv' := [(2, .int (v2 + (1 : Int32))), (0, .ref (Γ.1 164)), (1, .int v1)]) C.1 C.2.1 (kd kX8_tell_1 0 rfl) hl (k := 2) rfl rfl (Nat.le_of_ble_eq_true rfl) rfl (fun ls hl => ?_)
    refine lv_goto (tgt := 55) C.1 C.2.1 (kd kX8_tell_1 1 rfl) (by decide) ?_
    exact hK55 (v1) ((v2 + (1 : Int32))) σ4 H locs ls hf hP hS (lv_sub hl [1, 2, 0] rfl)
def f_X8_tell_b191 (K171 : Int32 → fS → Option (fS)) : Nat → Int32 → Int32 → Int32 → fS → Option (fS)
  | 0, _, _, _, _ => none
  | n_ + 1, v1, v2, v3, σ => fb v2 12 ((if (σ 177 v2.toNatClampNeg) ≤ v3 then K171 ((v1 + (1 : Int32))) σ else fb (((24 : Int32) * v2) + v3) 288 (fcallv (f_X8_loads v2 (σ 176 (((24 : Int32) * v2) + v3).toNatClampNeg) σ) (fun σ1 => (fun v1 v2 v3 σ => f_X8_tell_b191 K171 n_ v1 v2 v3 σ) (v1) (v2) ((v3 + (1 : Int32))) σ1))))
set_option maxRecDepth 100000 in
set_option maxHeartbeats 4000000 in
theorem w_X8_tell_b191 {σ' : fS} {K171 : Int32 → fS → Option (fS)}  (C : fC Γ p s m args meth c cX8_tell none RX8 4) (hK171 : ∀ (v1 : Int32) (σ : fS) (H : Heap) (locs : List Loc) (ls : Array Slot), K171 v1 σ = some σ' → fH Γ σ H → va_S (fAd Γ) s.heap H locs → lv_has ls 4 [(0, .ref (Γ.1 164)), (1, .int v1)] → W p l e ({ frames := 6, cells := 0, slots := 0, locals := 140 } : Room) s m args below meth c H locs 0 0 (MQ below (fQv Γ σ') args s 0 0 (fAd Γ)) (F0 m 171 ls [])) : ∀ (n_ : Nat) (v1 : Int32) (v2 : Int32) (v3 : Int32) (σ : fS) (H : Heap) (locs : List Loc) (ls : Array Slot), f_X8_tell_b191 K171 n_ v1 v2 v3 σ = some σ' → fH Γ σ H → va_S (fAd Γ) s.heap H locs → lv_has ls 4 [(0, .ref (Γ.1 164)), (1, .int v1), (2, .int v2), (3, .int v3)] → W p l e ({ frames := 6, cells := 0, slots := 0, locals := 140 } : Room) s m args below meth c H locs 0 0 (MQ below (fQv Γ σ') args s 0 0 (fAd Γ)) (F0 m 191 ls []) := by
  intro n_
  induction n_ with
  | zero =>
    intro v1 v2 v3 σ H locs ls hf
    cases hf
  | succ n_ ih =>
    intro v1 v2 v3 σ H locs ls hf hP hS hl
    have hf : fb v2 12 ((if (σ 177 v2.toNatClampNeg) ≤ v3 then K171 ((v1 + (1 : Int32))) σ else fb (((24 : Int32) * v2) + v3) 288 (fcallv (f_X8_loads v2 (σ 176 (((24 : Int32) * v2) + v3).toNatClampNeg) σ) (fun σ1 => (fun v1 v2 v3 σ => f_X8_tell_b191 K171 n_ v1 v2 v3 σ) (v1) (v2) ((v3 + (1 : Int32))) σ1)))) = some σ' := hf
    have hK191 := ih
    refine lv_iload_n C.1 C.2.1 (kd kX8_tell_1 56 rfl) rfl (lv_at hl 3 rfl) ?_
    refine lv_aload_n C.1 C.2.1 (kd kX8_tell_1 57 rfl) rfl (lv_at hl 0 rfl) ?_
    refine fl_get (j := 18) (v := .ref (Γ.1 177)) C hP rfl (Nat.le_of_ble_eq_true rfl) rfl inX8 (Nat.le_of_ble_eq_true rfl) tw_880 rfl (kd kX8_tell_1 58 rfl) ?_
    refine lv_iload_n C.1 C.2.1 (kd kX8_tell_1 59 rfl) rfl (lv_at hl 2 rfl) ?_
    obtain ⟨hq, hf⟩ := fb_some hf
    refine fl_iald C hP rfl hq (kd kX8_tell_2 0 rfl) ?_
    refine lv_icmp_ge (tgt := 223) C.1 C.2.1 (kd kX8_tell_2 1 rfl) (by decide) (fun q => ?_) (fun q => ?_)
    · have hf := fif_pos q hf
      refine lv_iinc (v := (v1 + (1 : Int32))) (lv' := [(1, .int (v1 + (1 : Int32))), (0, .ref (Γ.1 164)), (2, .int v2), (3, .int v3)]) C.1 C.2.1 (kd kX8_tell_2 15 rfl) hl (k := 1) rfl rfl (Nat.le_of_ble_eq_true rfl) rfl (fun ls hl => ?_)
      refine lv_goto (tgt := 171) C.1 C.2.1 (kd kX8_tell_2 16 rfl) (by decide) ?_
      exact hK171 ((v1 + (1 : Int32))) σ H locs ls hf hP hS (lv_sub hl [1, 0] rfl)
    have hf := fif_neg q hf
    refine lv_aload_n C.1 C.2.1 (kd kX8_tell_2 2 rfl) rfl (lv_at hl 0 rfl) ?_
    refine lv_iload_n C.1 C.2.1 (kd kX8_tell_2 3 rfl) rfl (lv_at hl 2 rfl) ?_
    refine lv_aload_n C.1 C.2.1 (kd kX8_tell_2 4 rfl) rfl (lv_at hl 0 rfl) ?_
    refine fl_get (j := 17) (v := .ref (Γ.1 176)) C hP rfl (Nat.le_of_ble_eq_true rfl) rfl inX8 (Nat.le_of_ble_eq_true rfl) tw_879 rfl (kd kX8_tell_2 5 rfl) ?_
    refine lv_bipush (v := (24 : Int32)) C.1 C.2.1 (kd kX8_tell_2 6 rfl) (by decide) ?_
    refine lv_iload_n C.1 C.2.1 (kd kX8_tell_2 7 rfl) rfl (lv_at hl 2 rfl) ?_
    refine lv_imul C.1 C.2.1 (kd kX8_tell_2 8 rfl) ?_
    refine lv_iload_n C.1 C.2.1 (kd kX8_tell_2 9 rfl) rfl (lv_at hl 3 rfl) ?_
    refine lv_iadd C.1 C.2.1 (kd kX8_tell_2 10 rfl) ?_
    obtain ⟨hq, hf⟩ := fb_some hf
    refine fl_iald C hP rfl hq (kd kX8_tell_2 11 rfl) ?_
    obtain ⟨σ1, hσ1, hf⟩ := fcallv_some hf
    refine fl_v hS (fl_runV (As := [.int v2, .int (σ 176 (((24 : Int32) * v2) + v3).toNatClampNeg)]) (rest := []) C hP rfl (Nat.le_of_ble_eq_true rfl) rfl (m_X8_loads C.2.2.2.2.2.2.2.2 l  hσ1) (fgV tw_1171 tw_1173 tw_56 tw_75 tw_1174) hd_X8_loads ⟨rfl, rfl, Nat.le_of_ble_eq_true rfl, Nat.le_of_ble_eq_true rfl⟩ rfl hl.1 rfl (Nat.le_of_ble_eq_true rfl) (kd kX8_tell_2 12 rfl)) (fun H locs hP hS => ?_)
    refine lv_iinc (v := (v3 + (1 : Int32))) (lv' := [(3, .int (v3 + (1 : Int32))), (0, .ref (Γ.1 164)), (1, .int v1), (2, .int v2)]) C.1 C.2.1 (kd kX8_tell_2 13 rfl) hl (k := 3) rfl rfl (Nat.le_of_ble_eq_true rfl) rfl (fun ls hl => ?_)
    refine lv_goto (tgt := 191) C.1 C.2.1 (kd kX8_tell_2 14 rfl) (by decide) ?_
    exact hK191 (v1) (v2) ((v3 + (1 : Int32))) σ1 H locs ls hf hP hS (lv_sub hl [1, 2, 3, 0] rfl)
def f_X8_tell_b171 : Nat → Int32 → fS → Option (fS)
  | 0, _, _ => none
  | n_ + 1, v1, σ => fb (122 : Int32) 277 ((if (σ 165 (122 : Int32).toNatClampNeg) ≤ v1 then some σ else fb v1 12 (f_X8_tell_b191 (fun v1 σ => f_X8_tell_b171 n_ v1 σ) fN (v1) ((σ 171 v1.toNatClampNeg)) ((0 : Int32)) σ)))
set_option maxRecDepth 100000 in
set_option maxHeartbeats 4000000 in
theorem w_X8_tell_b171 {σ' : fS}  (C : fC Γ p s m args meth c cX8_tell none RX8 4) : ∀ (n_ : Nat) (v1 : Int32) (σ : fS) (H : Heap) (locs : List Loc) (ls : Array Slot), f_X8_tell_b171 n_ v1 σ = some σ' → fH Γ σ H → va_S (fAd Γ) s.heap H locs → lv_has ls 4 [(0, .ref (Γ.1 164)), (1, .int v1)] → W p l e ({ frames := 6, cells := 0, slots := 0, locals := 140 } : Room) s m args below meth c H locs 0 0 (MQ below (fQv Γ σ') args s 0 0 (fAd Γ)) (F0 m 171 ls []) := by
  intro n_
  induction n_ with
  | zero =>
    intro v1 σ H locs ls hf
    cases hf
  | succ n_ ih =>
    intro v1 σ H locs ls hf hP hS hl
    have hf : fb (122 : Int32) 277 ((if (σ 165 (122 : Int32).toNatClampNeg) ≤ v1 then some σ else fb v1 12 (f_X8_tell_b191 (fun v1 σ => f_X8_tell_b171 n_ v1 σ) fN (v1) ((σ 171 v1.toNatClampNeg)) ((0 : Int32)) σ))) = some σ' := hf
    have hK171 := ih
    refine lv_iload_n C.1 C.2.1 (kd kX8_tell_1 43 rfl) rfl (lv_at hl 1 rfl) ?_
    refine lv_aload_n C.1 C.2.1 (kd kX8_tell_1 44 rfl) rfl (lv_at hl 0 rfl) ?_
    refine fl_get (j := 0) (v := .ref (Γ.1 165)) C hP rfl (Nat.le_of_ble_eq_true rfl) rfl inX8 (Nat.le_of_ble_eq_true rfl) tw_862 rfl (kd kX8_tell_1 45 rfl) ?_
    refine lv_bipush (v := (122 : Int32)) C.1 C.2.1 (kd kX8_tell_1 46 rfl) (by decide) ?_
    obtain ⟨hq, hf⟩ := fb_some hf
    refine fl_iald C hP rfl hq (kd kX8_tell_1 47 rfl) ?_
    refine lv_icmp_ge (tgt := 229) C.1 C.2.1 (kd kX8_tell_1 48 rfl) (by decide) (fun q => ?_) (fun q => ?_)
    · have hf := fif_pos q hf
      exact fl_vret C hP hS hf (kd kX8_tell_2 17 rfl)
    have hf := fif_neg q hf
    refine lv_aload_n C.1 C.2.1 (kd kX8_tell_1 49 rfl) rfl (lv_at hl 0 rfl) ?_
    refine fl_get (j := 12) (v := .ref (Γ.1 171)) C hP rfl (Nat.le_of_ble_eq_true rfl) rfl inX8 (Nat.le_of_ble_eq_true rfl) tw_874 rfl (kd kX8_tell_1 50 rfl) ?_
    refine lv_iload_n C.1 C.2.1 (kd kX8_tell_1 51 rfl) rfl (lv_at hl 1 rfl) ?_
    obtain ⟨hq, hf⟩ := fb_some hf
    refine fl_iald C hP rfl hq (kd kX8_tell_1 52 rfl) ?_
    refine lv_istore_n (lv' := [(2, .int (σ 171 v1.toNatClampNeg)), (0, .ref (Γ.1 164)), (1, .int v1)]) C.1 C.2.1 (kd kX8_tell_1 53 rfl) rfl hl (Nat.le_of_ble_eq_true rfl) rfl (fun ls hl => ?_)
    refine lv_iconst (v := (0 : Int32)) C.1 C.2.1 (kd kX8_tell_1 54 rfl) (by decide) ?_
    refine lv_istore_n (lv' := [(3, .int (0 : Int32)), (2, .int (σ 171 v1.toNatClampNeg)), (0, .ref (Γ.1 164)), (1, .int v1)]) C.1 C.2.1 (kd kX8_tell_1 55 rfl) rfl hl (Nat.le_of_ble_eq_true rfl) rfl (fun ls hl => ?_)
    exact w_X8_tell_b191 C hK171 fN (v1) ((σ 171 v1.toNatClampNeg)) ((0 : Int32)) σ H locs ls hf hP hS (lv_sub hl [2, 3, 1, 0] rfl)
def f_X8_tell_b106 : Nat → Int32 → fS → Option (fS)
  | 0, _, _ => none
  | n_ + 1, v1, σ => fb (171 : Int32) 277 ((if (σ 165 (171 : Int32).toNatClampNeg) ≤ v1 then f_X8_tell_b171 fN ((0 : Int32)) σ else fb v1 24 (fL (fu σ 178 v1.toNatClampNeg (-10004 : Int32)) (fun σ1 => fb v1 24 (fL (fu σ1 179 v1.toNatClampNeg (-10004 : Int32)) (fun σ2 => fb v1 24 (fL (fu σ2 180 v1.toNatClampNeg (-10004 : Int32)) (fun σ3 => fb v1 24 (fL (fu σ3 181 v1.toNatClampNeg (0 : Int32)) (fun σ4 => fcall (f_X8_vehicleOf v1 (0 : Int32) σ4) (fun r5_ σ5 => fcallv (f_X8_waitsAt r5_ v1 σ5) (fun σ6 => (fun v1 σ => f_X8_tell_b106 n_ v1 σ) ((v1 + (1 : Int32))) σ6))))))))))))
set_option maxRecDepth 100000 in
set_option maxHeartbeats 4000000 in
theorem w_X8_tell_b106 {σ' : fS}  (C : fC Γ p s m args meth c cX8_tell none RX8 4) : ∀ (n_ : Nat) (v1 : Int32) (σ : fS) (H : Heap) (locs : List Loc) (ls : Array Slot), f_X8_tell_b106 n_ v1 σ = some σ' → fH Γ σ H → va_S (fAd Γ) s.heap H locs → lv_has ls 4 [(0, .ref (Γ.1 164)), (1, .int v1)] → W p l e ({ frames := 6, cells := 0, slots := 0, locals := 140 } : Room) s m args below meth c H locs 0 0 (MQ below (fQv Γ σ') args s 0 0 (fAd Γ)) (F0 m 106 ls []) := by
  intro n_
  induction n_ with
  | zero =>
    intro v1 σ H locs ls hf
    cases hf
  | succ n_ ih =>
    intro v1 σ H locs ls hf hP hS hl
    have hf : fb (171 : Int32) 277 ((if (σ 165 (171 : Int32).toNatClampNeg) ≤ v1 then f_X8_tell_b171 fN ((0 : Int32)) σ else fb v1 24 (fL (fu σ 178 v1.toNatClampNeg (-10004 : Int32)) (fun σ1 => fb v1 24 (fL (fu σ1 179 v1.toNatClampNeg (-10004 : Int32)) (fun σ2 => fb v1 24 (fL (fu σ2 180 v1.toNatClampNeg (-10004 : Int32)) (fun σ3 => fb v1 24 (fL (fu σ3 181 v1.toNatClampNeg (0 : Int32)) (fun σ4 => fcall (f_X8_vehicleOf v1 (0 : Int32) σ4) (fun r5_ σ5 => fcallv (f_X8_waitsAt r5_ v1 σ5) (fun σ6 => (fun v1 σ => f_X8_tell_b106 n_ v1 σ) ((v1 + (1 : Int32))) σ6)))))))))))) = some σ' := hf
    have hK106 := ih
    refine lv_iload_n C.1 C.2.1 (kd kX8_tell_1 6 rfl) rfl (lv_at hl 1 rfl) ?_
    refine lv_aload_n C.1 C.2.1 (kd kX8_tell_1 7 rfl) rfl (lv_at hl 0 rfl) ?_
    refine fl_get (j := 0) (v := .ref (Γ.1 165)) C hP rfl (Nat.le_of_ble_eq_true rfl) rfl inX8 (Nat.le_of_ble_eq_true rfl) tw_862 rfl (kd kX8_tell_1 8 rfl) ?_
    refine lv_sipush (v := (171 : Int32)) C.1 C.2.1 (kd kX8_tell_1 9 rfl) (by decide) ?_
    obtain ⟨hq, hf⟩ := fb_some hf
    refine fl_iald C hP rfl hq (kd kX8_tell_1 10 rfl) ?_
    refine lv_icmp_ge (tgt := 169) C.1 C.2.1 (kd kX8_tell_1 11 rfl) (by decide) (fun q => ?_) (fun q => ?_)
    · have hf := fif_pos q hf
      refine lv_iconst (v := (0 : Int32)) C.1 C.2.1 (kd kX8_tell_1 41 rfl) (by decide) ?_
      refine lv_istore_n (lv' := [(1, .int (0 : Int32)), (0, .ref (Γ.1 164))]) C.1 C.2.1 (kd kX8_tell_1 42 rfl) rfl hl (Nat.le_of_ble_eq_true rfl) rfl (fun ls hl => ?_)
      exact w_X8_tell_b171 C fN ((0 : Int32)) σ H locs ls hf hP hS (lv_sub hl [1, 0] rfl)
    have hf := fif_neg q hf
    refine lv_aload_n C.1 C.2.1 (kd kX8_tell_1 12 rfl) rfl (lv_at hl 0 rfl) ?_
    refine fl_get (j := 19) (v := .ref (Γ.1 178)) C hP rfl (Nat.le_of_ble_eq_true rfl) rfl inX8 (Nat.le_of_ble_eq_true rfl) tw_881 rfl (kd kX8_tell_1 13 rfl) ?_
    refine lv_iload_n C.1 C.2.1 (kd kX8_tell_1 14 rfl) rfl (lv_at hl 1 rfl) ?_
    refine lv_sipush (v := (-10004 : Int32)) C.1 C.2.1 (kd kX8_tell_1 15 rfl) (by decide) ?_
    obtain ⟨hq, hf⟩ := fb_some hf
    obtain ⟨σ1, eσ1, hf⟩ := fL_some hf
    refine fl_iast C hP hS rfl hq (kd kX8_tell_1 16 rfl) (fun H locs hP hS => ?_)
    have hP : fH Γ σ1 H := by rw [eσ1]; exact hP
    refine lv_aload_n C.1 C.2.1 (kd kX8_tell_1 17 rfl) rfl (lv_at hl 0 rfl) ?_
    refine fl_get (j := 20) (v := .ref (Γ.1 179)) C hP rfl (Nat.le_of_ble_eq_true rfl) rfl inX8 (Nat.le_of_ble_eq_true rfl) tw_882 rfl (kd kX8_tell_1 18 rfl) ?_
    refine lv_iload_n C.1 C.2.1 (kd kX8_tell_1 19 rfl) rfl (lv_at hl 1 rfl) ?_
    refine lv_sipush (v := (-10004 : Int32)) C.1 C.2.1 (kd kX8_tell_1 20 rfl) (by decide) ?_
    obtain ⟨hq, hf⟩ := fb_some hf
    obtain ⟨σ2, eσ2, hf⟩ := fL_some hf
    refine fl_iast C hP hS rfl hq (kd kX8_tell_1 21 rfl) (fun H locs hP hS => ?_)
    have hP : fH Γ σ2 H := by rw [eσ2]; exact hP
    refine lv_aload_n C.1 C.2.1 (kd kX8_tell_1 22 rfl) rfl (lv_at hl 0 rfl) ?_
    refine fl_get (j := 21) (v := .ref (Γ.1 180)) C hP rfl (Nat.le_of_ble_eq_true rfl) rfl inX8 (Nat.le_of_ble_eq_true rfl) tw_883 rfl (kd kX8_tell_1 23 rfl) ?_
    refine lv_iload_n C.1 C.2.1 (kd kX8_tell_1 24 rfl) rfl (lv_at hl 1 rfl) ?_
    refine lv_sipush (v := (-10004 : Int32)) C.1 C.2.1 (kd kX8_tell_1 25 rfl) (by decide) ?_
    obtain ⟨hq, hf⟩ := fb_some hf
    obtain ⟨σ3, eσ3, hf⟩ := fL_some hf
    refine fl_iast C hP hS rfl hq (kd kX8_tell_1 26 rfl) (fun H locs hP hS => ?_)
    have hP : fH Γ σ3 H := by rw [eσ3]; exact hP
    refine lv_aload_n C.1 C.2.1 (kd kX8_tell_1 27 rfl) rfl (lv_at hl 0 rfl) ?_
    refine fl_get (j := 22) (v := .ref (Γ.1 181)) C hP rfl (Nat.le_of_ble_eq_true rfl) rfl inX8 (Nat.le_of_ble_eq_true rfl) tw_884 rfl (kd kX8_tell_1 28 rfl) ?_
    refine lv_iload_n C.1 C.2.1 (kd kX8_tell_1 29 rfl) rfl (lv_at hl 1 rfl) ?_
    refine lv_iconst (v := (0 : Int32)) C.1 C.2.1 (kd kX8_tell_1 30 rfl) (by decide) ?_
    obtain ⟨hq, hf⟩ := fb_some hf
    obtain ⟨σ4, eσ4, hf⟩ := fL_some hf
    refine fl_iast C hP hS rfl hq (kd kX8_tell_1 31 rfl) (fun H locs hP hS => ?_)
    have hP : fH Γ σ4 H := by rw [eσ4]; exact hP
    refine lv_aload_n C.1 C.2.1 (kd kX8_tell_1 32 rfl) rfl (lv_at hl 0 rfl) ?_
    refine lv_aload_n C.1 C.2.1 (kd kX8_tell_1 33 rfl) rfl (lv_at hl 0 rfl) ?_
    refine lv_iload_n C.1 C.2.1 (kd kX8_tell_1 34 rfl) rfl (lv_at hl 1 rfl) ?_
    refine lv_iconst (v := (0 : Int32)) C.1 C.2.1 (kd kX8_tell_1 35 rfl) (by decide) ?_
    obtain ⟨r5_, σ5, hσ5, hf⟩ := fcall_some hf
    refine fl_i hS (fl_runV (As := [.int v1, .int (0 : Int32)]) (rest := [.ref (Γ.1 164)]) C hP rfl (Nat.le_of_ble_eq_true rfl) rfl (m_X8_vehicleOf C.2.2.2.2.2.2.2.2 l  hσ5) (fgV tw_1163 tw_1165 tw_54 tw_75 tw_1166) hd_X8_vehicleOf ⟨rfl, rfl, Nat.le_of_ble_eq_true rfl, Nat.le_of_ble_eq_true rfl⟩ rfl hl.1 rfl (Nat.le_of_ble_eq_true rfl) (kd kX8_tell_1 36 rfl)) (fun H locs hP hS => ?_)
    refine lv_iload_n C.1 C.2.1 (kd kX8_tell_1 37 rfl) rfl (lv_at hl 1 rfl) ?_
    obtain ⟨σ6, hσ6, hf⟩ := fcallv_some hf
    refine fl_v hS (fl_runV (As := [.int r5_, .int v1]) (rest := []) C hP rfl (Nat.le_of_ble_eq_true rfl) rfl (m_X8_waitsAt C.2.2.2.2.2.2.2.2 l  hσ6) (fgV tw_1167 tw_1169 tw_55 tw_75 tw_1170) hd_X8_waitsAt ⟨rfl, rfl, Nat.le_of_ble_eq_true rfl, Nat.le_of_ble_eq_true rfl⟩ rfl hl.1 rfl (Nat.le_of_ble_eq_true rfl) (kd kX8_tell_1 38 rfl)) (fun H locs hP hS => ?_)
    refine lv_iinc (v := (v1 + (1 : Int32))) (lv' := [(1, .int (v1 + (1 : Int32))), (0, .ref (Γ.1 164))]) C.1 C.2.1 (kd kX8_tell_1 39 rfl) hl (k := 1) rfl rfl (Nat.le_of_ble_eq_true rfl) rfl (fun ls hl => ?_)
    refine lv_goto (tgt := 106) C.1 C.2.1 (kd kX8_tell_1 40 rfl) (by decide) ?_
    exact hK106 ((v1 + (1 : Int32))) σ6 H locs ls hf hP hS (lv_sub hl [1, 0] rfl)
def f_X8_tell_b35 : Nat → Int32 → fS → Option (fS)
  | 0, _, _ => none
  | n_ + 1, v1, σ => fb (122 : Int32) 277 ((if (σ 165 (122 : Int32).toNatClampNeg) ≤ v1 then f_X8_tell_b106 fN ((0 : Int32)) σ else fb v1 12 (fL (fu σ 177 v1.toNatClampNeg (0 : Int32)) (fun σ1 => f_X8_tell_b55 (fun v1 σ => f_X8_tell_b35 n_ v1 σ) fN (v1) ((0 : Int32)) σ1))))
set_option maxRecDepth 100000 in
set_option maxHeartbeats 4000000 in
theorem w_X8_tell_b35 {σ' : fS}  (C : fC Γ p s m args meth c cX8_tell none RX8 4) : ∀ (n_ : Nat) (v1 : Int32) (σ : fS) (H : Heap) (locs : List Loc) (ls : Array Slot), f_X8_tell_b35 n_ v1 σ = some σ' → fH Γ σ H → va_S (fAd Γ) s.heap H locs → lv_has ls 4 [(0, .ref (Γ.1 164)), (1, .int v1)] → W p l e ({ frames := 6, cells := 0, slots := 0, locals := 140 } : Room) s m args below meth c H locs 0 0 (MQ below (fQv Γ σ') args s 0 0 (fAd Γ)) (F0 m 35 ls []) := by
  intro n_
  induction n_ with
  | zero =>
    intro v1 σ H locs ls hf
    cases hf
  | succ n_ ih =>
    intro v1 σ H locs ls hf hP hS hl
    have hf : fb (122 : Int32) 277 ((if (σ 165 (122 : Int32).toNatClampNeg) ≤ v1 then f_X8_tell_b106 fN ((0 : Int32)) σ else fb v1 12 (fL (fu σ 177 v1.toNatClampNeg (0 : Int32)) (fun σ1 => f_X8_tell_b55 (fun v1 σ => f_X8_tell_b35 n_ v1 σ) fN (v1) ((0 : Int32)) σ1)))) = some σ' := hf
    have hK35 := ih
    refine lv_iload_n C.1 C.2.1 (kd kX8_tell_0 20 rfl) rfl (lv_at hl 1 rfl) ?_
    refine lv_aload_n C.1 C.2.1 (kd kX8_tell_0 21 rfl) rfl (lv_at hl 0 rfl) ?_
    refine fl_get (j := 0) (v := .ref (Γ.1 165)) C hP rfl (Nat.le_of_ble_eq_true rfl) rfl inX8 (Nat.le_of_ble_eq_true rfl) tw_862 rfl (kd kX8_tell_0 22 rfl) ?_
    refine lv_bipush (v := (122 : Int32)) C.1 C.2.1 (kd kX8_tell_0 23 rfl) (by decide) ?_
    obtain ⟨hq, hf⟩ := fb_some hf
    refine fl_iald C hP rfl hq (kd kX8_tell_0 24 rfl) ?_
    refine lv_icmp_ge (tgt := 104) C.1 C.2.1 (kd kX8_tell_0 25 rfl) (by decide) (fun q => ?_) (fun q => ?_)
    · have hf := fif_pos q hf
      refine lv_iconst (v := (0 : Int32)) C.1 C.2.1 (kd kX8_tell_1 4 rfl) (by decide) ?_
      refine lv_istore_n (lv' := [(1, .int (0 : Int32)), (0, .ref (Γ.1 164))]) C.1 C.2.1 (kd kX8_tell_1 5 rfl) rfl hl (Nat.le_of_ble_eq_true rfl) rfl (fun ls hl => ?_)
      exact w_X8_tell_b106 C fN ((0 : Int32)) σ H locs ls hf hP hS (lv_sub hl [1, 0] rfl)
    have hf := fif_neg q hf
    refine lv_aload_n C.1 C.2.1 (kd kX8_tell_0 26 rfl) rfl (lv_at hl 0 rfl) ?_
    refine fl_get (j := 18) (v := .ref (Γ.1 177)) C hP rfl (Nat.le_of_ble_eq_true rfl) rfl inX8 (Nat.le_of_ble_eq_true rfl) tw_880 rfl (kd kX8_tell_0 27 rfl) ?_
    refine lv_iload_n C.1 C.2.1 (kd kX8_tell_0 28 rfl) rfl (lv_at hl 1 rfl) ?_
    refine lv_iconst (v := (0 : Int32)) C.1 C.2.1 (kd kX8_tell_0 29 rfl) (by decide) ?_
    obtain ⟨hq, hf⟩ := fb_some hf
    obtain ⟨σ1, eσ1, hf⟩ := fL_some hf
    refine fl_iast C hP hS rfl hq (kd kX8_tell_0 30 rfl) (fun H locs hP hS => ?_)
    have hP : fH Γ σ1 H := by rw [eσ1]; exact hP
    refine lv_iconst (v := (0 : Int32)) C.1 C.2.1 (kd kX8_tell_0 31 rfl) (by decide) ?_
    refine lv_istore_n (lv' := [(2, .int (0 : Int32)), (0, .ref (Γ.1 164)), (1, .int v1)]) C.1 C.2.1 (kd kX8_tell_0 32 rfl) rfl hl (Nat.le_of_ble_eq_true rfl) rfl (fun ls hl => ?_)
    exact w_X8_tell_b55 C hK35 fN (v1) ((0 : Int32)) σ1 H locs ls hf hP hS (lv_sub hl [1, 2, 0] rfl)
def f_X8_tell_b6 : Nat → Int32 → fS → Option (fS)
  | 0, _, _ => none
  | n_ + 1, v1, σ => fb (122 : Int32) 277 ((if (σ 165 (122 : Int32).toNatClampNeg) ≤ v1 then f_X8_tell_b35 fN ((0 : Int32)) σ else fb v1 12 (fcallv (f_X8_decides (σ 171 v1.toNatClampNeg) σ) (fun σ1 => (fun v1 σ => f_X8_tell_b6 n_ v1 σ) ((v1 + (1 : Int32))) σ1))))
set_option maxRecDepth 100000 in
set_option maxHeartbeats 4000000 in
theorem w_X8_tell_b6 {σ' : fS}  (C : fC Γ p s m args meth c cX8_tell none RX8 4) : ∀ (n_ : Nat) (v1 : Int32) (σ : fS) (H : Heap) (locs : List Loc) (ls : Array Slot), f_X8_tell_b6 n_ v1 σ = some σ' → fH Γ σ H → va_S (fAd Γ) s.heap H locs → lv_has ls 4 [(0, .ref (Γ.1 164)), (1, .int v1)] → W p l e ({ frames := 6, cells := 0, slots := 0, locals := 140 } : Room) s m args below meth c H locs 0 0 (MQ below (fQv Γ σ') args s 0 0 (fAd Γ)) (F0 m 6 ls []) := by
  intro n_
  induction n_ with
  | zero =>
    intro v1 σ H locs ls hf
    cases hf
  | succ n_ ih =>
    intro v1 σ H locs ls hf hP hS hl
    have hf : fb (122 : Int32) 277 ((if (σ 165 (122 : Int32).toNatClampNeg) ≤ v1 then f_X8_tell_b35 fN ((0 : Int32)) σ else fb v1 12 (fcallv (f_X8_decides (σ 171 v1.toNatClampNeg) σ) (fun σ1 => (fun v1 σ => f_X8_tell_b6 n_ v1 σ) ((v1 + (1 : Int32))) σ1)))) = some σ' := hf
    have hK6 := ih
    refine lv_iload_n C.1 C.2.1 (kd kX8_tell_0 4 rfl) rfl (lv_at hl 1 rfl) ?_
    refine lv_aload_n C.1 C.2.1 (kd kX8_tell_0 5 rfl) rfl (lv_at hl 0 rfl) ?_
    refine fl_get (j := 0) (v := .ref (Γ.1 165)) C hP rfl (Nat.le_of_ble_eq_true rfl) rfl inX8 (Nat.le_of_ble_eq_true rfl) tw_862 rfl (kd kX8_tell_0 6 rfl) ?_
    refine lv_bipush (v := (122 : Int32)) C.1 C.2.1 (kd kX8_tell_0 7 rfl) (by decide) ?_
    obtain ⟨hq, hf⟩ := fb_some hf
    refine fl_iald C hP rfl hq (kd kX8_tell_0 8 rfl) ?_
    refine lv_icmp_ge (tgt := 33) C.1 C.2.1 (kd kX8_tell_0 9 rfl) (by decide) (fun q => ?_) (fun q => ?_)
    · have hf := fif_pos q hf
      refine lv_iconst (v := (0 : Int32)) C.1 C.2.1 (kd kX8_tell_0 18 rfl) (by decide) ?_
      refine lv_istore_n (lv' := [(1, .int (0 : Int32)), (0, .ref (Γ.1 164))]) C.1 C.2.1 (kd kX8_tell_0 19 rfl) rfl hl (Nat.le_of_ble_eq_true rfl) rfl (fun ls hl => ?_)
      exact w_X8_tell_b35 C fN ((0 : Int32)) σ H locs ls hf hP hS (lv_sub hl [1, 0] rfl)
    have hf := fif_neg q hf
    refine lv_aload_n C.1 C.2.1 (kd kX8_tell_0 10 rfl) rfl (lv_at hl 0 rfl) ?_
    refine lv_aload_n C.1 C.2.1 (kd kX8_tell_0 11 rfl) rfl (lv_at hl 0 rfl) ?_
    refine fl_get (j := 12) (v := .ref (Γ.1 171)) C hP rfl (Nat.le_of_ble_eq_true rfl) rfl inX8 (Nat.le_of_ble_eq_true rfl) tw_874 rfl (kd kX8_tell_0 12 rfl) ?_
    refine lv_iload_n C.1 C.2.1 (kd kX8_tell_0 13 rfl) rfl (lv_at hl 1 rfl) ?_
    obtain ⟨hq, hf⟩ := fb_some hf
    refine fl_iald C hP rfl hq (kd kX8_tell_0 14 rfl) ?_
    obtain ⟨σ1, hσ1, hf⟩ := fcallv_some hf
    refine fl_v hS (fl_runV (As := [.int (σ 171 v1.toNatClampNeg)]) (rest := []) C hP rfl (Nat.le_of_ble_eq_true rfl) rfl (m_X8_decides C.2.2.2.2.2.2.2.2 l  hσ1) (fgV tw_1122 tw_1124 tw_44 tw_75 tw_1125) hd_X8_decides ⟨rfl, rfl, Nat.le_of_ble_eq_true rfl, Nat.le_of_ble_eq_true rfl⟩ rfl hl.1 rfl (Nat.le_of_ble_eq_true rfl) (kd kX8_tell_0 15 rfl)) (fun H locs hP hS => ?_)
    refine lv_iinc (v := (v1 + (1 : Int32))) (lv' := [(1, .int (v1 + (1 : Int32))), (0, .ref (Γ.1 164))]) C.1 C.2.1 (kd kX8_tell_0 16 rfl) hl (k := 1) rfl rfl (Nat.le_of_ble_eq_true rfl) rfl (fun ls hl => ?_)
    refine lv_goto (tgt := 6) C.1 C.2.1 (kd kX8_tell_0 17 rfl) (by decide) ?_
    exact hK6 ((v1 + (1 : Int32))) σ1 H locs ls hf hP hS (lv_sub hl [1, 0] rfl)
def f_X8_tell (σ : fS) : Option (fS) := fcallv (f_X8_sorts σ) (fun σ1 => f_X8_tell_b6 fN ((0 : Int32)) σ1)
set_option maxRecDepth 100000 in
set_option maxHeartbeats 4000000 in
theorem m_X8_tell {Γ : fGm} (hI : fI Γ) (l : Launch) {σ : fS} {σ' : fS} (hf : f_X8_tell  σ = some σ') : Met l yX8_tell (.code yX8_tell cX8_tell 4 none :: lw_g) ({ frames := 6, cells := 0, slots := 0, locals := 140 } : Room) (fPre Γ [.ref (Γ.1 164)] σ) (fQv Γ σ') 0 0 (fAd Γ) := by
  refine fl_enter (own := RX8) hI (by decide +kernel) rfl (Nat.le_of_ble_eq_true rfl) ?_
  intro p e s m args below meth c ls C hl hP hS
  have hl : lv_has ls 4 [(0, .ref (Γ.1 164))] := hl
  obtain ⟨H, hH⟩ : ∃ H, H = s.heap := ⟨_, rfl⟩
  obtain ⟨locs, hL⟩ : ∃ L : List Loc, L = [] := ⟨_, rfl⟩
  have hP : fH Γ σ H := by rw [hH]; exact hP
  have hS : va_S (fAd Γ) s.heap H locs := by rw [hH, hL]; exact hS
  suffices hw : W p l e ({ frames := 6, cells := 0, slots := 0, locals := 140 } : Room) s m args below meth c H locs 0 0 (MQ below (fQv Γ σ') args s 0 0 (fAd Γ)) (F0 m 0 ls []) by rw [hH, hL] at hw; exact hw
  unfold f_X8_tell at hf
  refine lv_aload_n C.1 C.2.1 (kd kX8_tell_0 0 rfl) rfl (lv_at hl 0 rfl) ?_
  obtain ⟨σ1, hσ1, hf⟩ := fcallv_some hf
  refine fl_v hS (fl_runV (As := []) (rest := []) C hP rfl (Nat.le_of_ble_eq_true rfl) rfl (m_X8_sorts C.2.2.2.2.2.2.2.2 l  hσ1) (fgV tw_1114 tw_1116 tw_42 tw_75 tw_1117) hd_X8_sorts ⟨rfl, rfl, Nat.le_of_ble_eq_true rfl, Nat.le_of_ble_eq_true rfl⟩ rfl hl.1 rfl (Nat.le_of_ble_eq_true rfl) (kd kX8_tell_0 1 rfl)) (fun H locs hP hS => ?_)
  refine lv_iconst (v := (0 : Int32)) C.1 C.2.1 (kd kX8_tell_0 2 rfl) (by decide) ?_
  refine lv_istore_n (lv' := [(1, .int (0 : Int32)), (0, .ref (Γ.1 164))]) C.1 C.2.1 (kd kX8_tell_0 3 rfl) rfl hl (Nat.le_of_ble_eq_true rfl) rfl (fun ls hl => ?_)
  exact w_X8_tell_b6 C fN ((0 : Int32)) σ1 H locs ls hf hP hS (lv_sub hl [1, 0] rfl)
def f_X8_count (x1 : Int32) (σ : fS) : Option (Int32 × fS) := (if x1 = (0 : Int32) then fb (98 : Int32) 277 (some ((σ 165 (98 : Int32).toNatClampNeg), σ)) else if x1 = (1 : Int32) then fb (115 : Int32) 277 (some ((σ 165 (115 : Int32).toNatClampNeg), σ)) else if x1 = (2 : Int32) then fb (122 : Int32) 277 (some ((σ 165 (122 : Int32).toNatClampNeg), σ)) else if x1 = (3 : Int32) then fb (171 : Int32) 277 (some ((σ 165 (171 : Int32).toNatClampNeg), σ)) else if x1 = (4 : Int32) then fb (244 : Int32) 277 (some ((σ 165 (244 : Int32).toNatClampNeg), σ)) else if x1 = (5 : Int32) then some ((σ 164 7), σ) else if x1 = (6 : Int32) then fb (97 : Int32) 277 (some ((σ 165 (97 : Int32).toNatClampNeg), σ)) else some ((-10002 : Int32), σ))
set_option maxRecDepth 100000 in
set_option maxHeartbeats 4000000 in
theorem m_X8_count {Γ : fGm} (hI : fI Γ) (l : Launch) {x1 : Int32} {σ : fS} {r : Int32} {σ' : fS} (hf : f_X8_count x1 σ = some (r, σ')) : Met l yX8_count (.code yX8_count cX8_count 2 (some .int) :: lw_g) ({ frames := 0, cells := 0, slots := 0, locals := 0 } : Room) (fPre Γ [.ref (Γ.1 164), .int x1] σ) (fQi Γ r σ') 0 0 (fAd Γ) := by
  refine fl_enter (own := RX8) hI (by decide +kernel) rfl (Nat.le_of_ble_eq_true rfl) ?_
  intro p e s m args below meth c ls C hl hP hS
  have hl : lv_has ls 2 [(0, .ref (Γ.1 164)), (1, .int x1)] := hl
  obtain ⟨H, hH⟩ : ∃ H, H = s.heap := ⟨_, rfl⟩
  obtain ⟨locs, hL⟩ : ∃ L : List Loc, L = [] := ⟨_, rfl⟩
  have hP : fH Γ σ H := by rw [hH]; exact hP
  have hS : va_S (fAd Γ) s.heap H locs := by rw [hH, hL]; exact hS
  suffices hw : W p l e ({ frames := 0, cells := 0, slots := 0, locals := 0 } : Room) s m args below meth c H locs 0 0 (MQ below (fQi Γ r σ') args s 0 0 (fAd Γ)) (F0 m 0 ls []) by rw [hH, hL] at hw; exact hw
  unfold f_X8_count at hf
  refine lv_iload_n C.1 C.2.1 (kd kX8_count_0 0 rfl) rfl (lv_at hl 1 rfl) ?_
  by_cases q0 : x1 = (0 : Int32)
  · have hf := fif_pos q0 hf
    refine lv_tableIn (tgt := 44) C.1 C.2.1 (kd kX8_count_0 1 rfl) (by rw [q0] <;> decide) (by rw [q0] <;> decide) (by rw [q0] <;> rfl) (by decide) ?_
    refine lv_aload_n C.1 C.2.1 (kd kX8_count_0 2 rfl) rfl (lv_at hl 0 rfl) ?_
    refine fl_get (j := 0) (v := .ref (Γ.1 165)) C hP rfl (Nat.le_of_ble_eq_true rfl) rfl inX8 (Nat.le_of_ble_eq_true rfl) tw_862 rfl (kd kX8_count_0 3 rfl) ?_
    refine lv_bipush (v := (98 : Int32)) C.1 C.2.1 (kd kX8_count_0 4 rfl) (by decide) ?_
    obtain ⟨hq, hf⟩ := fb_some hf
    refine fl_iald C hP rfl hq (kd kX8_count_0 5 rfl) ?_
    exact fl_iret C hP hS hf (kd kX8_count_0 6 rfl)
  have hf := fif_neg q0 hf
  have z0 : ¬ x1.toInt = 0 := fi_ne q0 (by decide)
  by_cases q1 : x1 = (1 : Int32)
  · have hf := fif_pos q1 hf
    refine lv_tableIn (tgt := 52) C.1 C.2.1 (kd kX8_count_0 1 rfl) (by rw [q1] <;> decide) (by rw [q1] <;> decide) (by rw [q1] <;> rfl) (by decide) ?_
    refine lv_aload_n C.1 C.2.1 (kd kX8_count_0 7 rfl) rfl (lv_at hl 0 rfl) ?_
    refine fl_get (j := 0) (v := .ref (Γ.1 165)) C hP rfl (Nat.le_of_ble_eq_true rfl) rfl inX8 (Nat.le_of_ble_eq_true rfl) tw_862 rfl (kd kX8_count_0 8 rfl) ?_
    refine lv_bipush (v := (115 : Int32)) C.1 C.2.1 (kd kX8_count_0 9 rfl) (by decide) ?_
    obtain ⟨hq, hf⟩ := fb_some hf
    refine fl_iald C hP rfl hq (kd kX8_count_0 10 rfl) ?_
    exact fl_iret C hP hS hf (kd kX8_count_0 11 rfl)
  have hf := fif_neg q1 hf
  have z1 : ¬ x1.toInt = 1 := fi_ne q1 (by decide)
  by_cases q2 : x1 = (2 : Int32)
  · have hf := fif_pos q2 hf
    refine lv_tableIn (tgt := 60) C.1 C.2.1 (kd kX8_count_0 1 rfl) (by rw [q2] <;> decide) (by rw [q2] <;> decide) (by rw [q2] <;> rfl) (by decide) ?_
    refine lv_aload_n C.1 C.2.1 (kd kX8_count_0 12 rfl) rfl (lv_at hl 0 rfl) ?_
    refine fl_get (j := 0) (v := .ref (Γ.1 165)) C hP rfl (Nat.le_of_ble_eq_true rfl) rfl inX8 (Nat.le_of_ble_eq_true rfl) tw_862 rfl (kd kX8_count_0 13 rfl) ?_
    refine lv_bipush (v := (122 : Int32)) C.1 C.2.1 (kd kX8_count_0 14 rfl) (by decide) ?_
    obtain ⟨hq, hf⟩ := fb_some hf
    refine fl_iald C hP rfl hq (kd kX8_count_0 15 rfl) ?_
    exact fl_iret C hP hS hf (kd kX8_count_0 16 rfl)
  have hf := fif_neg q2 hf
  have z2 : ¬ x1.toInt = 2 := fi_ne q2 (by decide)
  by_cases q3 : x1 = (3 : Int32)
  · have hf := fif_pos q3 hf
    refine lv_tableIn (tgt := 68) C.1 C.2.1 (kd kX8_count_0 1 rfl) (by rw [q3] <;> decide) (by rw [q3] <;> decide) (by rw [q3] <;> rfl) (by decide) ?_
    refine lv_aload_n C.1 C.2.1 (kd kX8_count_0 17 rfl) rfl (lv_at hl 0 rfl) ?_
    refine fl_get (j := 0) (v := .ref (Γ.1 165)) C hP rfl (Nat.le_of_ble_eq_true rfl) rfl inX8 (Nat.le_of_ble_eq_true rfl) tw_862 rfl (kd kX8_count_0 18 rfl) ?_
    refine lv_sipush (v := (171 : Int32)) C.1 C.2.1 (kd kX8_count_0 19 rfl) (by decide) ?_
    obtain ⟨hq, hf⟩ := fb_some hf
    refine fl_iald C hP rfl hq (kd kX8_count_0 20 rfl) ?_
    exact fl_iret C hP hS hf (kd kX8_count_0 21 rfl)
  have hf := fif_neg q3 hf
  have z3 : ¬ x1.toInt = 3 := fi_ne q3 (by decide)
  by_cases q4 : x1 = (4 : Int32)
  · have hf := fif_pos q4 hf
    refine lv_tableIn (tgt := 77) C.1 C.2.1 (kd kX8_count_0 1 rfl) (by rw [q4] <;> decide) (by rw [q4] <;> decide) (by rw [q4] <;> rfl) (by decide) ?_
    refine lv_aload_n C.1 C.2.1 (kd kX8_count_0 22 rfl) rfl (lv_at hl 0 rfl) ?_
    refine fl_get (j := 0) (v := .ref (Γ.1 165)) C hP rfl (Nat.le_of_ble_eq_true rfl) rfl inX8 (Nat.le_of_ble_eq_true rfl) tw_862 rfl (kd kX8_count_0 23 rfl) ?_
    refine lv_sipush (v := (244 : Int32)) C.1 C.2.1 (kd kX8_count_0 24 rfl) (by decide) ?_
    obtain ⟨hq, hf⟩ := fb_some hf
    refine fl_iald C hP rfl hq (kd kX8_count_0 25 rfl) ?_
    exact fl_iret C hP hS hf (kd kX8_count_0 26 rfl)
  have hf := fif_neg q4 hf
  have z4 : ¬ x1.toInt = 4 := fi_ne q4 (by decide)
  by_cases q5 : x1 = (5 : Int32)
  · have hf := fif_pos q5 hf
    refine lv_tableIn (tgt := 86) C.1 C.2.1 (kd kX8_count_0 1 rfl) (by rw [q5] <;> decide) (by rw [q5] <;> decide) (by rw [q5] <;> rfl) (by decide) ?_
    refine lv_aload_n C.1 C.2.1 (kd kX8_count_0 27 rfl) rfl (lv_at hl 0 rfl) ?_
    refine fl_get (j := 7) (v := .int (σ 164 7)) C hP rfl (Nat.le_of_ble_eq_true rfl) rfl inX8 (Nat.le_of_ble_eq_true rfl) tw_869 rfl (kd kX8_count_0 28 rfl) ?_
    exact fl_iret C hP hS hf (kd kX8_count_0 29 rfl)
  have hf := fif_neg q5 hf
  have z5 : ¬ x1.toInt = 5 := fi_ne q5 (by decide)
  by_cases q6 : x1 = (6 : Int32)
  · have hf := fif_pos q6 hf
    refine lv_tableIn (tgt := 91) C.1 C.2.1 (kd kX8_count_0 1 rfl) (by rw [q6] <;> decide) (by rw [q6] <;> decide) (by rw [q6] <;> rfl) (by decide) ?_
    refine lv_aload_n C.1 C.2.1 (kd kX8_count_0 30 rfl) rfl (lv_at hl 0 rfl) ?_
    refine fl_get (j := 0) (v := .ref (Γ.1 165)) C hP rfl (Nat.le_of_ble_eq_true rfl) rfl inX8 (Nat.le_of_ble_eq_true rfl) tw_862 rfl (kd kX8_count_0 31 rfl) ?_
    refine lv_bipush (v := (97 : Int32)) C.1 C.2.1 (kd kX8_count_0 32 rfl) (by decide) ?_
    obtain ⟨hq, hf⟩ := fb_some hf
    refine fl_iald C hP rfl hq (kd kX8_count_0 33 rfl) ?_
    exact fl_iret C hP hS hf (kd kX8_count_0 34 rfl)
  have hf := fif_neg q6 hf
  have z6 : ¬ x1.toInt = 6 := fi_ne q6 (by decide)
  refine lv_tableOut (tgt := 99) C.1 C.2.1 (kd kX8_count_0 1 rfl) (by omega) (by decide) ?_
  refine lv_sipush (v := (-10002 : Int32)) C.1 C.2.1 (kd kX8_count_0 35 rfl) (by decide) ?_
  exact fl_iret C hP hS hf (kd kX8_count_0 36 rfl)
def f_X8_sailing_b53 (K9 : Int32 → Int32 → Int32 → Int32 → fS → Option (Int32 × fS)) (v1 : Int32) (v2 : Int32) (v4 : Int32) (s0 : Int32) (s1 : Int32) (σ : fS) : Option (Int32 × fS) := K9 (v1) (v2) ((s1 + s0)) ((v4 + (1 : Int32))) σ
set_option maxRecDepth 100000 in
set_option maxHeartbeats 4000000 in
theorem w_X8_sailing_b53 {r : Int32} {σ' : fS} {K9 : Int32 → Int32 → Int32 → Int32 → fS → Option (Int32 × fS)}  (C : fC Γ p s m args meth c cX8_sailing (some .int) RX8 5) (hK9 : ∀ (v1 : Int32) (v2 : Int32) (v3 : Int32) (v4 : Int32) (σ : fS) (H : Heap) (locs : List Loc) (ls : Array Slot), K9 v1 v2 v3 v4 σ = some (r, σ') → fH Γ σ H → va_S (fAd Γ) s.heap H locs → lv_has ls 5 [(0, .ref (Γ.1 164)), (1, .int v1), (2, .int v2), (3, .int v3), (4, .int v4)] → W p l e ({ frames := 7, cells := 0, slots := 0, locals := 163 } : Room) s m args below meth c H locs 0 0 (MQ below (fQi Γ r σ') args s 0 0 (fAd Γ)) (F0 m 9 ls [])) : ∀ (v1 : Int32) (v2 : Int32) (v4 : Int32) (s0 : Int32) (s1 : Int32) (σ : fS) (H : Heap) (locs : List Loc) (ls : Array Slot), f_X8_sailing_b53 K9 v1 v2 v4 s0 s1 σ = some (r, σ') → fH Γ σ H → va_S (fAd Γ) s.heap H locs → lv_has ls 5 [(0, .ref (Γ.1 164)), (1, .int v1), (2, .int v2), (4, .int v4)] → W p l e ({ frames := 7, cells := 0, slots := 0, locals := 163 } : Room) s m args below meth c H locs 0 0 (MQ below (fQi Γ r σ') args s 0 0 (fAd Γ)) (F0 m 53 ls [.int s0, .int s1]) := by
  intro v1 v2 v4 s0 s1 σ H locs ls hf hP hS hl
  unfold f_X8_sailing_b53 at hf
  refine lv_iadd C.1 C.2.1 (kd kX8_sailing_0 30 rfl) ?_
  refine lv_istore_n (lv' := [(3, .int (s1 + s0)), (0, .ref (Γ.1 164)), (1, .int v1), (2, .int v2), (4, .int v4)]) C.1 C.2.1 (kd kX8_sailing_0 31 rfl) rfl hl (Nat.le_of_ble_eq_true rfl) rfl (fun ls hl => ?_)
  refine lv_iinc (v := (v4 + (1 : Int32))) (lv' := [(4, .int (v4 + (1 : Int32))), (3, .int (s1 + s0)), (0, .ref (Γ.1 164)), (1, .int v1), (2, .int v2)]) C.1 C.2.1 (kd kX8_sailing_0 32 rfl) hl (k := 4) rfl rfl (Nat.le_of_ble_eq_true rfl) rfl (fun ls hl => ?_)
  refine lv_goto (tgt := 9) C.1 C.2.1 (kd kX8_sailing_0 33 rfl) (by decide) ?_
  exact hK9 (v1) (v2) ((s1 + s0)) ((v4 + (1 : Int32))) σ H locs ls hf hP hS (lv_sub hl [2, 3, 4, 1, 0] rfl)
def f_X8_sailing_b48 (K9 : Int32 → Int32 → Int32 → Int32 → fS → Option (Int32 × fS)) (v1 : Int32) (v2 : Int32) (v4 : Int32) (s0 : Int32) (σ : fS) : Option (Int32 × fS) := f_X8_sailing_b53 K9 (v1) (v2) (v4) ((1 : Int32)) (s0) σ
set_option maxRecDepth 100000 in
set_option maxHeartbeats 4000000 in
theorem w_X8_sailing_b48 {r : Int32} {σ' : fS} {K9 : Int32 → Int32 → Int32 → Int32 → fS → Option (Int32 × fS)}  (C : fC Γ p s m args meth c cX8_sailing (some .int) RX8 5) (hK9 : ∀ (v1 : Int32) (v2 : Int32) (v3 : Int32) (v4 : Int32) (σ : fS) (H : Heap) (locs : List Loc) (ls : Array Slot), K9 v1 v2 v3 v4 σ = some (r, σ') → fH Γ σ H → va_S (fAd Γ) s.heap H locs → lv_has ls 5 [(0, .ref (Γ.1 164)), (1, .int v1), (2, .int v2), (3, .int v3), (4, .int v4)] → W p l e ({ frames := 7, cells := 0, slots := 0, locals := 163 } : Room) s m args below meth c H locs 0 0 (MQ below (fQi Γ r σ') args s 0 0 (fAd Γ)) (F0 m 9 ls [])) : ∀ (v1 : Int32) (v2 : Int32) (v4 : Int32) (s0 : Int32) (σ : fS) (H : Heap) (locs : List Loc) (ls : Array Slot), f_X8_sailing_b48 K9 v1 v2 v4 s0 σ = some (r, σ') → fH Γ σ H → va_S (fAd Γ) s.heap H locs → lv_has ls 5 [(0, .ref (Γ.1 164)), (1, .int v1), (2, .int v2), (4, .int v4)] → W p l e ({ frames := 7, cells := 0, slots := 0, locals := 163 } : Room) s m args below meth c H locs 0 0 (MQ below (fQi Γ r σ') args s 0 0 (fAd Γ)) (F0 m 48 ls [.int s0]) := by
  intro v1 v2 v4 s0 σ H locs ls hf hP hS hl
  unfold f_X8_sailing_b48 at hf
  refine lv_iconst (v := (1 : Int32)) C.1 C.2.1 (kd kX8_sailing_0 27 rfl) (by decide) ?_
  refine lv_goto (tgt := 53) C.1 C.2.1 (kd kX8_sailing_0 28 rfl) (by decide) ?_
  exact w_X8_sailing_b53 C hK9 (v1) (v2) (v4) ((1 : Int32)) (s0) σ H locs ls hf hP hS (lv_sub hl [0, 1, 2, 3] rfl)
def f_X8_sailing_b52 (K9 : Int32 → Int32 → Int32 → Int32 → fS → Option (Int32 × fS)) (v1 : Int32) (v2 : Int32) (v4 : Int32) (s0 : Int32) (σ : fS) : Option (Int32 × fS) := f_X8_sailing_b53 K9 (v1) (v2) (v4) ((0 : Int32)) (s0) σ
set_option maxRecDepth 100000 in
set_option maxHeartbeats 4000000 in
theorem w_X8_sailing_b52 {r : Int32} {σ' : fS} {K9 : Int32 → Int32 → Int32 → Int32 → fS → Option (Int32 × fS)}  (C : fC Γ p s m args meth c cX8_sailing (some .int) RX8 5) (hK9 : ∀ (v1 : Int32) (v2 : Int32) (v3 : Int32) (v4 : Int32) (σ : fS) (H : Heap) (locs : List Loc) (ls : Array Slot), K9 v1 v2 v3 v4 σ = some (r, σ') → fH Γ σ H → va_S (fAd Γ) s.heap H locs → lv_has ls 5 [(0, .ref (Γ.1 164)), (1, .int v1), (2, .int v2), (3, .int v3), (4, .int v4)] → W p l e ({ frames := 7, cells := 0, slots := 0, locals := 163 } : Room) s m args below meth c H locs 0 0 (MQ below (fQi Γ r σ') args s 0 0 (fAd Γ)) (F0 m 9 ls [])) : ∀ (v1 : Int32) (v2 : Int32) (v4 : Int32) (s0 : Int32) (σ : fS) (H : Heap) (locs : List Loc) (ls : Array Slot), f_X8_sailing_b52 K9 v1 v2 v4 s0 σ = some (r, σ') → fH Γ σ H → va_S (fAd Γ) s.heap H locs → lv_has ls 5 [(0, .ref (Γ.1 164)), (1, .int v1), (2, .int v2), (4, .int v4)] → W p l e ({ frames := 7, cells := 0, slots := 0, locals := 163 } : Room) s m args below meth c H locs 0 0 (MQ below (fQi Γ r σ') args s 0 0 (fAd Γ)) (F0 m 52 ls [.int s0]) := by
  intro v1 v2 v4 s0 σ H locs ls hf hP hS hl
  unfold f_X8_sailing_b52 at hf
  refine lv_iconst (v := (0 : Int32)) C.1 C.2.1 (kd kX8_sailing_0 29 rfl) (by decide) ?_
  exact w_X8_sailing_b53 C hK9 (v1) (v2) (v4) ((0 : Int32)) (s0) σ H locs ls hf hP hS (lv_sub hl [0, 1, 2, 3] rfl)
def f_X8_sailing_b9 : Nat → Int32 → Int32 → Int32 → Int32 → fS → Option (Int32 × fS)
  | 0, _, _, _, _, _ => none
  | n_ + 1, v1, v2, v3, v4, σ => fb (122 : Int32) 277 ((if (σ 165 (122 : Int32).toNatClampNeg) ≤ v4 then some (v3, σ) else fb v4 12 ((if (σ 173 v4.toNatClampNeg) = 0 then (if v1 = (2 : Int32) then f_X8_sailing_b48 (fun v1 v2 v3 v4 σ => f_X8_sailing_b9 n_ v1 v2 v3 v4 σ) (v1) (v2) (v4) (v3) σ else fcall (f_X8_of v4 v1 σ) (fun r1_ σ1 => (if r1_ = v2 then f_X8_sailing_b48 (fun v1 v2 v3 v4 σ => f_X8_sailing_b9 n_ v1 v2 v3 v4 σ) (v1) (v2) (v4) (v3) σ1 else f_X8_sailing_b52 (fun v1 v2 v3 v4 σ => f_X8_sailing_b9 n_ v1 v2 v3 v4 σ) (v1) (v2) (v4) (v3) σ1))) else f_X8_sailing_b52 (fun v1 v2 v3 v4 σ => f_X8_sailing_b9 n_ v1 v2 v3 v4 σ) (v1) (v2) (v4) (v3) σ))))
set_option maxRecDepth 100000 in
set_option maxHeartbeats 4000000 in
theorem w_X8_sailing_b9 {r : Int32} {σ' : fS}  (C : fC Γ p s m args meth c cX8_sailing (some .int) RX8 5) : ∀ (n_ : Nat) (v1 : Int32) (v2 : Int32) (v3 : Int32) (v4 : Int32) (σ : fS) (H : Heap) (locs : List Loc) (ls : Array Slot), f_X8_sailing_b9 n_ v1 v2 v3 v4 σ = some (r, σ') → fH Γ σ H → va_S (fAd Γ) s.heap H locs → lv_has ls 5 [(0, .ref (Γ.1 164)), (1, .int v1), (2, .int v2), (3, .int v3), (4, .int v4)] → W p l e ({ frames := 7, cells := 0, slots := 0, locals := 163 } : Room) s m args below meth c H locs 0 0 (MQ below (fQi Γ r σ') args s 0 0 (fAd Γ)) (F0 m 9 ls []) := by
  intro n_
  induction n_ with
  | zero =>
    intro v1 v2 v3 v4 σ H locs ls hf
    cases hf
  | succ n_ ih =>
    intro v1 v2 v3 v4 σ H locs ls hf hP hS hl
    have hf : fb (122 : Int32) 277 ((if (σ 165 (122 : Int32).toNatClampNeg) ≤ v4 then some (v3, σ) else fb v4 12 ((if (σ 173 v4.toNatClampNeg) = 0 then (if v1 = (2 : Int32) then f_X8_sailing_b48 (fun v1 v2 v3 v4 σ => f_X8_sailing_b9 n_ v1 v2 v3 v4 σ) (v1) (v2) (v4) (v3) σ else fcall (f_X8_of v4 v1 σ) (fun r1_ σ1 => (if r1_ = v2 then f_X8_sailing_b48 (fun v1 v2 v3 v4 σ => f_X8_sailing_b9 n_ v1 v2 v3 v4 σ) (v1) (v2) (v4) (v3) σ1 else f_X8_sailing_b52 (fun v1 v2 v3 v4 σ => f_X8_sailing_b9 n_ v1 v2 v3 v4 σ) (v1) (v2) (v4) (v3) σ1))) else f_X8_sailing_b52 (fun v1 v2 v3 v4 σ => f_X8_sailing_b9 n_ v1 v2 v3 v4 σ) (v1) (v2) (v4) (v3) σ)))) = some (r, σ') := hf
    have hK9 := ih
    refine lv_iload C.1 C.2.1 (kd kX8_sailing_0 6 rfl) (lv_at hl 4 rfl) ?_
    refine lv_aload_n C.1 C.2.1 (kd kX8_sailing_0 7 rfl) rfl (lv_at hl 0 rfl) ?_
    refine fl_get (j := 0) (v := .ref (Γ.1 165)) C hP rfl (Nat.le_of_ble_eq_true rfl) rfl inX8 (Nat.le_of_ble_eq_true rfl) tw_862 rfl (kd kX8_sailing_0 8 rfl) ?_
    refine lv_bipush (v := (122 : Int32)) C.1 C.2.1 (kd kX8_sailing_0 9 rfl) (by decide) ?_
    obtain ⟨hq, hf⟩ := fb_some hf
    refine fl_iald C hP rfl hq (kd kX8_sailing_0 10 rfl) ?_
    refine lv_icmp_ge (tgt := 61) C.1 C.2.1 (kd kX8_sailing_0 11 rfl) (by decide) (fun q => ?_) (fun q => ?_)
    · have hf := fif_pos q hf
      refine lv_iload_n C.1 C.2.1 (kd kX8_sailing_0 34 rfl) rfl (lv_at hl 3 rfl) ?_
      exact fl_iret C hP hS hf (kd kX8_sailing_0 35 rfl)
    have hf := fif_neg q hf
    refine lv_iload_n C.1 C.2.1 (kd kX8_sailing_0 12 rfl) rfl (lv_at hl 3 rfl) ?_
    refine lv_aload_n C.1 C.2.1 (kd kX8_sailing_0 13 rfl) rfl (lv_at hl 0 rfl) ?_
    refine fl_get (j := 14) (v := .ref (Γ.1 173)) C hP rfl (Nat.le_of_ble_eq_true rfl) rfl inX8 (Nat.le_of_ble_eq_true rfl) tw_876 rfl (kd kX8_sailing_0 14 rfl) ?_
    refine lv_iload C.1 C.2.1 (kd kX8_sailing_0 15 rfl) (lv_at hl 4 rfl) ?_
    obtain ⟨hq, hf⟩ := fb_some hf
    refine fl_iald C hP rfl hq (kd kX8_sailing_0 16 rfl) ?_
    refine lv_if_ne (tgt := 52) C.1 C.2.1 (kd kX8_sailing_0 17 rfl) (by decide) (fun q => ?_) (fun q => ?_)
    · have hf := fif_neg q hf
      exact w_X8_sailing_b52 C hK9 (v1) (v2) (v4) (v3) σ H locs ls hf hP hS (lv_sub hl [0, 1, 2, 4] rfl)
    have hf := fif_pos q hf
    refine lv_iload_n C.1 C.2.1 (kd kX8_sailing_0 18 rfl) rfl (lv_at hl 1 rfl) ?_
    refine lv_iconst (v := (2 : Int32)) C.1 C.2.1 (kd kX8_sailing_0 19 rfl) (by decide) ?_
    refine lv_icmp_eq (tgt := 48) C.1 C.2.1 (kd kX8_sailing_0 20 rfl) (by decide) (fun q => ?_) (fun q => ?_)
    · have hf := fif_pos q hf
      exact w_X8_sailing_b48 C hK9 (v1) (v2) (v4) (v3) σ H locs ls hf hP hS (lv_sub hl [0, 1, 2, 4] rfl)
    have hf := fif_neg q hf
    refine lv_aload_n C.1 C.2.1 (kd kX8_sailing_0 21 rfl) rfl (lv_at hl 0 rfl) ?_
    refine lv_iload C.1 C.2.1 (kd kX8_sailing_0 22 rfl) (lv_at hl 4 rfl) ?_
    refine lv_iload_n C.1 C.2.1 (kd kX8_sailing_0 23 rfl) rfl (lv_at hl 1 rfl) ?_
    obtain ⟨r1_, σ1, hσ1, hf⟩ := fcall_some hf
    refine fl_i hS (fl_runV (As := [.int v4, .int v1]) (rest := [.int v3]) C hP rfl (Nat.le_of_ble_eq_true rfl) rfl (m_X8_of C.2.2.2.2.2.2.2.2 l  hσ1) (fgV tw_1118 tw_1120 tw_43 tw_75 tw_1121) hd_X8_of ⟨rfl, rfl, Nat.le_of_ble_eq_true rfl, Nat.le_of_ble_eq_true rfl⟩ rfl hl.1 rfl (Nat.le_of_ble_eq_true rfl) (kd kX8_sailing_0 24 rfl)) (fun H locs hP hS => ?_)
    refine lv_iload_n C.1 C.2.1 (kd kX8_sailing_0 25 rfl) rfl (lv_at hl 2 rfl) ?_
    refine lv_icmp_ne (tgt := 52) C.1 C.2.1 (kd kX8_sailing_0 26 rfl) (by decide) (fun q => ?_) (fun q => ?_)
    · have hf := fif_neg q hf
      exact w_X8_sailing_b52 C hK9 (v1) (v2) (v4) (v3) σ1 H locs ls hf hP hS (lv_sub hl [0, 1, 2, 4] rfl)
    have hf := fif_pos q hf
    exact w_X8_sailing_b48 C hK9 (v1) (v2) (v4) (v3) σ1 H locs ls hf hP hS (lv_sub hl [0, 1, 2, 4] rfl)
def f_X8_sailing (x1 : Int32) (x2 : Int32) (σ : fS) : Option (Int32 × fS) := fcallv (f_X8_tell σ) (fun σ1 => f_X8_sailing_b9 fN (x1) (x2) ((0 : Int32)) ((0 : Int32)) σ1)
set_option maxRecDepth 100000 in
set_option maxHeartbeats 4000000 in
theorem m_X8_sailing {Γ : fGm} (hI : fI Γ) (l : Launch) {x1 : Int32} {x2 : Int32} {σ : fS} {r : Int32} {σ' : fS} (hf : f_X8_sailing x1 x2 σ = some (r, σ')) : Met l yX8_sailing (.code yX8_sailing cX8_sailing 5 (some .int) :: lw_g) ({ frames := 7, cells := 0, slots := 0, locals := 163 } : Room) (fPre Γ [.ref (Γ.1 164), .int x1, .int x2] σ) (fQi Γ r σ') 0 0 (fAd Γ) := by
  refine fl_enter (own := RX8) hI (by decide +kernel) rfl (Nat.le_of_ble_eq_true rfl) ?_
  intro p e s m args below meth c ls C hl hP hS
  have hl : lv_has ls 5 [(0, .ref (Γ.1 164)), (1, .int x1), (2, .int x2)] := hl
  obtain ⟨H, hH⟩ : ∃ H, H = s.heap := ⟨_, rfl⟩
  obtain ⟨locs, hL⟩ : ∃ L : List Loc, L = [] := ⟨_, rfl⟩
  have hP : fH Γ σ H := by rw [hH]; exact hP
  have hS : va_S (fAd Γ) s.heap H locs := by rw [hH, hL]; exact hS
  suffices hw : W p l e ({ frames := 7, cells := 0, slots := 0, locals := 163 } : Room) s m args below meth c H locs 0 0 (MQ below (fQi Γ r σ') args s 0 0 (fAd Γ)) (F0 m 0 ls []) by rw [hH, hL] at hw; exact hw
  unfold f_X8_sailing at hf
  refine lv_aload_n C.1 C.2.1 (kd kX8_sailing_0 0 rfl) rfl (lv_at hl 0 rfl) ?_
  obtain ⟨σ1, hσ1, hf⟩ := fcallv_some hf
  refine fl_v hS (fl_runV (As := []) (rest := []) C hP rfl (Nat.le_of_ble_eq_true rfl) rfl (m_X8_tell C.2.2.2.2.2.2.2.2 l  hσ1) (fgV tw_1110 tw_1112 tw_41 tw_75 tw_1113) hd_X8_tell ⟨rfl, rfl, Nat.le_of_ble_eq_true rfl, Nat.le_of_ble_eq_true rfl⟩ rfl hl.1 rfl (Nat.le_of_ble_eq_true rfl) (kd kX8_sailing_0 1 rfl)) (fun H locs hP hS => ?_)
  refine lv_iconst (v := (0 : Int32)) C.1 C.2.1 (kd kX8_sailing_0 2 rfl) (by decide) ?_
  refine lv_istore_n (lv' := [(3, .int (0 : Int32)), (0, .ref (Γ.1 164)), (1, .int x1), (2, .int x2)]) C.1 C.2.1 (kd kX8_sailing_0 3 rfl) rfl hl (Nat.le_of_ble_eq_true rfl) rfl (fun ls hl => ?_)
  refine lv_iconst (v := (0 : Int32)) C.1 C.2.1 (kd kX8_sailing_0 4 rfl) (by decide) ?_
  refine lv_istore (lv' := [(4, .int (0 : Int32)), (3, .int (0 : Int32)), (0, .ref (Γ.1 164)), (1, .int x1), (2, .int x2)]) C.1 C.2.1 (kd kX8_sailing_0 5 rfl) hl (Nat.le_of_ble_eq_true rfl) rfl (fun ls hl => ?_)
  exact w_X8_sailing_b9 C fN (x1) (x2) ((0 : Int32)) ((0 : Int32)) σ1 H locs ls hf hP hS (lv_sub hl [2, 3, 4, 1, 0] rfl)
def f_X8_ship (x1 : Int32) (x2 : Int32) (σ : fS) : Option (Int32 × fS) := fcall (f_X8_isShip x1 σ) (fun r1_ σ1 => (if r1_ = 0 then some ((-10001 : Int32), σ1) else fcall (f_X8_in x2 (0 : Int32) (3 : Int32) σ1) (fun r2_ σ2 => (if r2_ = 0 then (if x2 = (4 : Int32) then fcall (f_X8_sailing (0 : Int32) x1 σ2) (fun r3_ σ3 => some (r3_, σ3)) else some ((-10002 : Int32), σ2)) else fcall (f_X8_shipOf x1 x2 σ2) (fun r4_ σ4 => some (r4_, σ4))))))
set_option maxRecDepth 100000 in
set_option maxHeartbeats 4000000 in
theorem m_X8_ship {Γ : fGm} (hI : fI Γ) (l : Launch) {x1 : Int32} {x2 : Int32} {σ : fS} {r : Int32} {σ' : fS} (hf : f_X8_ship x1 x2 σ = some (r, σ')) : Met l yX8_ship (.code yX8_ship cX8_ship 3 (some .int) :: lw_g) ({ frames := 8, cells := 0, slots := 0, locals := 187 } : Room) (fPre Γ [.ref (Γ.1 164), .int x1, .int x2] σ) (fQi Γ r σ') 0 0 (fAd Γ) := by
  refine fl_enter (own := RX8) hI (by decide +kernel) rfl (Nat.le_of_ble_eq_true rfl) ?_
  intro p e s m args below meth c ls C hl hP hS
  have hl : lv_has ls 3 [(0, .ref (Γ.1 164)), (1, .int x1), (2, .int x2)] := hl
  obtain ⟨H, hH⟩ : ∃ H, H = s.heap := ⟨_, rfl⟩
  obtain ⟨locs, hL⟩ : ∃ L : List Loc, L = [] := ⟨_, rfl⟩
  have hP : fH Γ σ H := by rw [hH]; exact hP
  have hS : va_S (fAd Γ) s.heap H locs := by rw [hH, hL]; exact hS
  suffices hw : W p l e ({ frames := 8, cells := 0, slots := 0, locals := 187 } : Room) s m args below meth c H locs 0 0 (MQ below (fQi Γ r σ') args s 0 0 (fAd Γ)) (F0 m 0 ls []) by rw [hH, hL] at hw; exact hw
  unfold f_X8_ship at hf
  refine lv_aload_n C.1 C.2.1 (kd kX8_ship_0 0 rfl) rfl (lv_at hl 0 rfl) ?_
  refine lv_iload_n C.1 C.2.1 (kd kX8_ship_0 1 rfl) rfl (lv_at hl 1 rfl) ?_
  obtain ⟨r1_, σ1, hσ1, hf⟩ := fcall_some hf
  refine fl_i hS (fl_runV (As := [.int x1]) (rest := []) C hP rfl (Nat.le_of_ble_eq_true rfl) rfl (m_X8_isShip C.2.2.2.2.2.2.2.2 l  hσ1) (fgV tw_994 tw_996 tw_25 tw_75 tw_997) hd_X8_isShip ⟨rfl, rfl, Nat.le_of_ble_eq_true rfl, Nat.le_of_ble_eq_true rfl⟩ rfl hl.1 rfl (Nat.le_of_ble_eq_true rfl) (kd kX8_ship_0 2 rfl)) (fun H locs hP hS => ?_)
  refine lv_if_ne (tgt := 12) C.1 C.2.1 (kd kX8_ship_0 3 rfl) (by decide) (fun q => ?_) (fun q => ?_)
  · have hf := fif_neg q hf
    refine lv_iload_n C.1 C.2.1 (kd kX8_ship_0 6 rfl) rfl (lv_at hl 2 rfl) ?_
    refine lv_iconst (v := (0 : Int32)) C.1 C.2.1 (kd kX8_ship_0 7 rfl) (by decide) ?_
    refine lv_iconst (v := (3 : Int32)) C.1 C.2.1 (kd kX8_ship_0 8 rfl) (by decide) ?_
    obtain ⟨r2_, σ2, hσ2, hf⟩ := fcall_some hf
    refine fl_i hS (fl_runS (As := [.int x2, .int (0 : Int32), .int (3 : Int32)]) (rest := []) C hP (m_X8_in C.2.2.2.2.2.2.2.2 l  hσ2) (fgS tw_968 tw_969 tw_75 tw_970) hs_X8_in ⟨rfl, rfl, Nat.le_of_ble_eq_true rfl, Nat.le_of_ble_eq_true rfl⟩ rfl hl.1 rfl (Nat.le_of_ble_eq_true rfl) (kd kX8_ship_0 9 rfl)) (fun H locs hP hS => ?_)
    refine lv_if_eq (tgt := 30) C.1 C.2.1 (kd kX8_ship_0 10 rfl) (by decide) (fun q => ?_) (fun q => ?_)
    · have hf := fif_pos q hf
      refine lv_iload_n C.1 C.2.1 (kd kX8_ship_0 16 rfl) rfl (lv_at hl 2 rfl) ?_
      refine lv_iconst (v := (4 : Int32)) C.1 C.2.1 (kd kX8_ship_0 17 rfl) (by decide) ?_
      refine lv_icmp_ne (tgt := 44) C.1 C.2.1 (kd kX8_ship_0 18 rfl) (by decide) (fun q => ?_) (fun q => ?_)
      · have hf := fif_neg q hf
        refine lv_sipush (v := (-10002 : Int32)) C.1 C.2.1 (kd kX8_ship_0 24 rfl) (by decide) ?_
        exact fl_iret C hP hS hf (kd kX8_ship_0 25 rfl)
      have hf := fif_pos q hf
      refine lv_aload_n C.1 C.2.1 (kd kX8_ship_0 19 rfl) rfl (lv_at hl 0 rfl) ?_
      refine lv_iconst (v := (0 : Int32)) C.1 C.2.1 (kd kX8_ship_0 20 rfl) (by decide) ?_
      refine lv_iload_n C.1 C.2.1 (kd kX8_ship_0 21 rfl) rfl (lv_at hl 1 rfl) ?_
      obtain ⟨r3_, σ3, hσ3, hf⟩ := fcall_some hf
      refine fl_i hS (fl_runV (As := [.int (0 : Int32), .int x1]) (rest := []) C hP rfl (Nat.le_of_ble_eq_true rfl) rfl (m_X8_sailing C.2.2.2.2.2.2.2.2 l  hσ3) (fgV tw_1106 tw_1108 tw_40 tw_75 tw_1109) hd_X8_sailing ⟨rfl, rfl, Nat.le_of_ble_eq_true rfl, Nat.le_of_ble_eq_true rfl⟩ rfl hl.1 rfl (Nat.le_of_ble_eq_true rfl) (kd kX8_ship_0 22 rfl)) (fun H locs hP hS => ?_)
      refine lv_goto (tgt := 47) C.1 C.2.1 (kd kX8_ship_0 23 rfl) (by decide) ?_
      exact fl_iret C hP hS hf (kd kX8_ship_0 25 rfl)
    have hf := fif_neg q hf
    refine lv_aload_n C.1 C.2.1 (kd kX8_ship_0 11 rfl) rfl (lv_at hl 0 rfl) ?_
    refine lv_iload_n C.1 C.2.1 (kd kX8_ship_0 12 rfl) rfl (lv_at hl 1 rfl) ?_
    refine lv_iload_n C.1 C.2.1 (kd kX8_ship_0 13 rfl) rfl (lv_at hl 2 rfl) ?_
    obtain ⟨r4_, σ4, hσ4, hf⟩ := fcall_some hf
    refine fl_i hS (fl_runV (As := [.int x1, .int x2]) (rest := []) C hP rfl (Nat.le_of_ble_eq_true rfl) rfl (m_X8_shipOf C.2.2.2.2.2.2.2.2 l  hσ4) (fgV tw_1102 tw_1104 tw_39 tw_75 tw_1105) hd_X8_shipOf ⟨rfl, rfl, Nat.le_of_ble_eq_true rfl, Nat.le_of_ble_eq_true rfl⟩ rfl hl.1 rfl (Nat.le_of_ble_eq_true rfl) (kd kX8_ship_0 14 rfl)) (fun H locs hP hS => ?_)
    refine lv_goto (tgt := 47) C.1 C.2.1 (kd kX8_ship_0 15 rfl) (by decide) ?_
    exact fl_iret C hP hS hf (kd kX8_ship_0 25 rfl)
  have hf := fif_pos q hf
  refine lv_sipush (v := (-10001 : Int32)) C.1 C.2.1 (kd kX8_ship_0 4 rfl) (by decide) ?_
  exact fl_iret C hP hS hf (kd kX8_ship_0 5 rfl)
def f_X8_berth (x1 : Int32) (x2 : Int32) (σ : fS) : Option (Int32 × fS) := fcall (f_X8_isBerth x1 σ) (fun r1_ σ1 => (if r1_ = 0 then some ((-10001 : Int32), σ1) else fcall (f_X8_in x2 (0 : Int32) (1 : Int32) σ1) (fun r2_ σ2 => (if r2_ = 0 then (if x2 = (2 : Int32) then fcall (f_X8_sailing (1 : Int32) x1 σ2) (fun r3_ σ3 => some (r3_, σ3)) else some ((-10002 : Int32), σ2)) else fcall (f_X8_berthOf x1 x2 σ2) (fun r4_ σ4 => some (r4_, σ4))))))
set_option maxRecDepth 100000 in
set_option maxHeartbeats 4000000 in
theorem m_X8_berth {Γ : fGm} (hI : fI Γ) (l : Launch) {x1 : Int32} {x2 : Int32} {σ : fS} {r : Int32} {σ' : fS} (hf : f_X8_berth x1 x2 σ = some (r, σ')) : Met l yX8_berth (.code yX8_berth cX8_berth 3 (some .int) :: lw_g) ({ frames := 8, cells := 0, slots := 0, locals := 187 } : Room) (fPre Γ [.ref (Γ.1 164), .int x1, .int x2] σ) (fQi Γ r σ') 0 0 (fAd Γ) := by
  refine fl_enter (own := RX8) hI (by decide +kernel) rfl (Nat.le_of_ble_eq_true rfl) ?_
  intro p e s m args below meth c ls C hl hP hS
  have hl : lv_has ls 3 [(0, .ref (Γ.1 164)), (1, .int x1), (2, .int x2)] := hl
  obtain ⟨H, hH⟩ : ∃ H, H = s.heap := ⟨_, rfl⟩
  obtain ⟨locs, hL⟩ : ∃ L : List Loc, L = [] := ⟨_, rfl⟩
  have hP : fH Γ σ H := by rw [hH]; exact hP
  have hS : va_S (fAd Γ) s.heap H locs := by rw [hH, hL]; exact hS
  suffices hw : W p l e ({ frames := 8, cells := 0, slots := 0, locals := 187 } : Room) s m args below meth c H locs 0 0 (MQ below (fQi Γ r σ') args s 0 0 (fAd Γ)) (F0 m 0 ls []) by rw [hH, hL] at hw; exact hw
  unfold f_X8_berth at hf
  refine lv_aload_n C.1 C.2.1 (kd kX8_berth_0 0 rfl) rfl (lv_at hl 0 rfl) ?_
  refine lv_iload_n C.1 C.2.1 (kd kX8_berth_0 1 rfl) rfl (lv_at hl 1 rfl) ?_
  obtain ⟨r1_, σ1, hσ1, hf⟩ := fcall_some hf
  refine fl_i hS (fl_runV (As := [.int x1]) (rest := []) C hP rfl (Nat.le_of_ble_eq_true rfl) rfl (m_X8_isBerth C.2.2.2.2.2.2.2.2 l  hσ1) (fgV tw_998 tw_1000 tw_26 tw_75 tw_1001) hd_X8_isBerth ⟨rfl, rfl, Nat.le_of_ble_eq_true rfl, Nat.le_of_ble_eq_true rfl⟩ rfl hl.1 rfl (Nat.le_of_ble_eq_true rfl) (kd kX8_berth_0 2 rfl)) (fun H locs hP hS => ?_)
  refine lv_if_ne (tgt := 12) C.1 C.2.1 (kd kX8_berth_0 3 rfl) (by decide) (fun q => ?_) (fun q => ?_)
  · have hf := fif_neg q hf
    refine lv_iload_n C.1 C.2.1 (kd kX8_berth_0 6 rfl) rfl (lv_at hl 2 rfl) ?_
    refine lv_iconst (v := (0 : Int32)) C.1 C.2.1 (kd kX8_berth_0 7 rfl) (by decide) ?_
    refine lv_iconst (v := (1 : Int32)) C.1 C.2.1 (kd kX8_berth_0 8 rfl) (by decide) ?_
    obtain ⟨r2_, σ2, hσ2, hf⟩ := fcall_some hf
    refine fl_i hS (fl_runS (As := [.int x2, .int (0 : Int32), .int (1 : Int32)]) (rest := []) C hP (m_X8_in C.2.2.2.2.2.2.2.2 l  hσ2) (fgS tw_968 tw_969 tw_75 tw_970) hs_X8_in ⟨rfl, rfl, Nat.le_of_ble_eq_true rfl, Nat.le_of_ble_eq_true rfl⟩ rfl hl.1 rfl (Nat.le_of_ble_eq_true rfl) (kd kX8_berth_0 9 rfl)) (fun H locs hP hS => ?_)
    refine lv_if_eq (tgt := 30) C.1 C.2.1 (kd kX8_berth_0 10 rfl) (by decide) (fun q => ?_) (fun q => ?_)
    · have hf := fif_pos q hf
      refine lv_iload_n C.1 C.2.1 (kd kX8_berth_0 16 rfl) rfl (lv_at hl 2 rfl) ?_
      refine lv_iconst (v := (2 : Int32)) C.1 C.2.1 (kd kX8_berth_0 17 rfl) (by decide) ?_
      refine lv_icmp_ne (tgt := 44) C.1 C.2.1 (kd kX8_berth_0 18 rfl) (by decide) (fun q => ?_) (fun q => ?_)
      · have hf := fif_neg q hf
        refine lv_sipush (v := (-10002 : Int32)) C.1 C.2.1 (kd kX8_berth_0 24 rfl) (by decide) ?_
        exact fl_iret C hP hS hf (kd kX8_berth_0 25 rfl)
      have hf := fif_pos q hf
      refine lv_aload_n C.1 C.2.1 (kd kX8_berth_0 19 rfl) rfl (lv_at hl 0 rfl) ?_
      refine lv_iconst (v := (1 : Int32)) C.1 C.2.1 (kd kX8_berth_0 20 rfl) (by decide) ?_
      refine lv_iload_n C.1 C.2.1 (kd kX8_berth_0 21 rfl) rfl (lv_at hl 1 rfl) ?_
      obtain ⟨r3_, σ3, hσ3, hf⟩ := fcall_some hf
      refine fl_i hS (fl_runV (As := [.int (1 : Int32), .int x1]) (rest := []) C hP rfl (Nat.le_of_ble_eq_true rfl) rfl (m_X8_sailing C.2.2.2.2.2.2.2.2 l  hσ3) (fgV tw_1106 tw_1108 tw_40 tw_75 tw_1109) hd_X8_sailing ⟨rfl, rfl, Nat.le_of_ble_eq_true rfl, Nat.le_of_ble_eq_true rfl⟩ rfl hl.1 rfl (Nat.le_of_ble_eq_true rfl) (kd kX8_berth_0 22 rfl)) (fun H locs hP hS => ?_)
      refine lv_goto (tgt := 47) C.1 C.2.1 (kd kX8_berth_0 23 rfl) (by decide) ?_
      exact fl_iret C hP hS hf (kd kX8_berth_0 25 rfl)
    have hf := fif_neg q hf
    refine lv_aload_n C.1 C.2.1 (kd kX8_berth_0 11 rfl) rfl (lv_at hl 0 rfl) ?_
    refine lv_iload_n C.1 C.2.1 (kd kX8_berth_0 12 rfl) rfl (lv_at hl 1 rfl) ?_
    refine lv_iload_n C.1 C.2.1 (kd kX8_berth_0 13 rfl) rfl (lv_at hl 2 rfl) ?_
    obtain ⟨r4_, σ4, hσ4, hf⟩ := fcall_some hf
    refine fl_i hS (fl_runV (As := [.int x1, .int x2]) (rest := []) C hP rfl (Nat.le_of_ble_eq_true rfl) rfl (m_X8_berthOf C.2.2.2.2.2.2.2.2 l  hσ4) (fgV tw_1034 tw_1036 tw_31 tw_75 tw_1037) hd_X8_berthOf ⟨rfl, rfl, Nat.le_of_ble_eq_true rfl, Nat.le_of_ble_eq_true rfl⟩ rfl hl.1 rfl (Nat.le_of_ble_eq_true rfl) (kd kX8_berth_0 14 rfl)) (fun H locs hP hS => ?_)
    refine lv_goto (tgt := 47) C.1 C.2.1 (kd kX8_berth_0 15 rfl) (by decide) ?_
    exact fl_iret C hP hS hf (kd kX8_berth_0 25 rfl)
  have hf := fif_pos q hf
  refine lv_sipush (v := (-10001 : Int32)) C.1 C.2.1 (kd kX8_berth_0 4 rfl) (by decide) ?_
  exact fl_iret C hP hS hf (kd kX8_berth_0 5 rfl)
def f_X8_loaded_b32 (K4 : Int32 → Int32 → Int32 → fS → Option (Int32 × fS)) (v1 : Int32) (v3 : Int32) (s0 : Int32) (s1 : Int32) (σ : fS) : Option (Int32 × fS) := K4 (v1) ((s1 + s0)) ((v3 + (1 : Int32))) σ
set_option maxRecDepth 100000 in
set_option maxHeartbeats 4000000 in
theorem w_X8_loaded_b32 {r : Int32} {σ' : fS} {K4 : Int32 → Int32 → Int32 → fS → Option (Int32 × fS)}  (C : fC Γ p s m args meth c cX8_loaded (some .int) RX8 4) (hK4 : ∀ (v1 : Int32) (v2 : Int32) (v3 : Int32) (σ : fS) (H : Heap) (locs : List Loc) (ls : Array Slot), K4 v1 v2 v3 σ = some (r, σ') → fH Γ σ H → va_S (fAd Γ) s.heap H locs → lv_has ls 4 [(0, .ref (Γ.1 164)), (1, .int v1), (2, .int v2), (3, .int v3)] → W p l e ({ frames := 0, cells := 0, slots := 0, locals := 0 } : Room) s m args below meth c H locs 0 0 (MQ below (fQi Γ r σ') args s 0 0 (fAd Γ)) (F0 m 4 ls [])) : ∀ (v1 : Int32) (v3 : Int32) (s0 : Int32) (s1 : Int32) (σ : fS) (H : Heap) (locs : List Loc) (ls : Array Slot), f_X8_loaded_b32 K4 v1 v3 s0 s1 σ = some (r, σ') → fH Γ σ H → va_S (fAd Γ) s.heap H locs → lv_has ls 4 [(0, .ref (Γ.1 164)), (1, .int v1), (3, .int v3)] → W p l e ({ frames := 0, cells := 0, slots := 0, locals := 0 } : Room) s m args below meth c H locs 0 0 (MQ below (fQi Γ r σ') args s 0 0 (fAd Γ)) (F0 m 32 ls [.int s0, .int s1]) := by
  intro v1 v3 s0 s1 σ H locs ls hf hP hS hl
  unfold f_X8_loaded_b32 at hf
  refine lv_iadd C.1 C.2.1 (kd kX8_loaded_0 20 rfl) ?_
  refine lv_istore_n (lv' := [(2, .int (s1 + s0)), (0, .ref (Γ.1 164)), (1, .int v1), (3, .int v3)]) C.1 C.2.1 (kd kX8_loaded_0 21 rfl) rfl hl (Nat.le_of_ble_eq_true rfl) rfl (fun ls hl => ?_)
  refine lv_iinc (v := (v3 + (1 : Int32))) (lv' := [(3, .int (v3 + (1 : Int32))), (2, .int (s1 + s0)), (0, .ref (Γ.1 164)), (1, .int v1)]) C.1 C.2.1 (kd kX8_loaded_0 22 rfl) hl (k := 3) rfl rfl (Nat.le_of_ble_eq_true rfl) rfl (fun ls hl => ?_)
  refine lv_goto (tgt := 4) C.1 C.2.1 (kd kX8_loaded_0 23 rfl) (by decide) ?_
  exact hK4 (v1) ((s1 + s0)) ((v3 + (1 : Int32))) σ H locs ls hf hP hS (lv_sub hl [2, 3, 1, 0] rfl)
def f_X8_loaded_b4 : Nat → Int32 → Int32 → Int32 → fS → Option (Int32 × fS)
  | 0, _, _, _, _ => none
  | n_ + 1, v1, v2, v3, σ => fb (171 : Int32) 277 ((if (σ 165 (171 : Int32).toNatClampNeg) ≤ v3 then some (v2, σ) else fb v3 24 ((if (σ 178 v3.toNatClampNeg) = v1 then f_X8_loaded_b32 (fun v1 v2 v3 σ => f_X8_loaded_b4 n_ v1 v2 v3 σ) (v1) (v3) ((1 : Int32)) (v2) σ else f_X8_loaded_b32 (fun v1 v2 v3 σ => f_X8_loaded_b4 n_ v1 v2 v3 σ) (v1) (v3) ((0 : Int32)) (v2) σ))))
set_option maxRecDepth 100000 in
set_option maxHeartbeats 4000000 in
theorem w_X8_loaded_b4 {r : Int32} {σ' : fS}  (C : fC Γ p s m args meth c cX8_loaded (some .int) RX8 4) : ∀ (n_ : Nat) (v1 : Int32) (v2 : Int32) (v3 : Int32) (σ : fS) (H : Heap) (locs : List Loc) (ls : Array Slot), f_X8_loaded_b4 n_ v1 v2 v3 σ = some (r, σ') → fH Γ σ H → va_S (fAd Γ) s.heap H locs → lv_has ls 4 [(0, .ref (Γ.1 164)), (1, .int v1), (2, .int v2), (3, .int v3)] → W p l e ({ frames := 0, cells := 0, slots := 0, locals := 0 } : Room) s m args below meth c H locs 0 0 (MQ below (fQi Γ r σ') args s 0 0 (fAd Γ)) (F0 m 4 ls []) := by
  intro n_
  induction n_ with
  | zero =>
    intro v1 v2 v3 σ H locs ls hf
    cases hf
  | succ n_ ih =>
    intro v1 v2 v3 σ H locs ls hf hP hS hl
    have hf : fb (171 : Int32) 277 ((if (σ 165 (171 : Int32).toNatClampNeg) ≤ v3 then some (v2, σ) else fb v3 24 ((if (σ 178 v3.toNatClampNeg) = v1 then f_X8_loaded_b32 (fun v1 v2 v3 σ => f_X8_loaded_b4 n_ v1 v2 v3 σ) (v1) (v3) ((1 : Int32)) (v2) σ else f_X8_loaded_b32 (fun v1 v2 v3 σ => f_X8_loaded_b4 n_ v1 v2 v3 σ) (v1) (v3) ((0 : Int32)) (v2) σ)))) = some (r, σ') := hf
    have hK4 := ih
    refine lv_iload_n C.1 C.2.1 (kd kX8_loaded_0 4 rfl) rfl (lv_at hl 3 rfl) ?_
    refine lv_aload_n C.1 C.2.1 (kd kX8_loaded_0 5 rfl) rfl (lv_at hl 0 rfl) ?_
    refine fl_get (j := 0) (v := .ref (Γ.1 165)) C hP rfl (Nat.le_of_ble_eq_true rfl) rfl inX8 (Nat.le_of_ble_eq_true rfl) tw_862 rfl (kd kX8_loaded_0 6 rfl) ?_
    refine lv_sipush (v := (171 : Int32)) C.1 C.2.1 (kd kX8_loaded_0 7 rfl) (by decide) ?_
    obtain ⟨hq, hf⟩ := fb_some hf
    refine fl_iald C hP rfl hq (kd kX8_loaded_0 8 rfl) ?_
    refine lv_icmp_ge (tgt := 40) C.1 C.2.1 (kd kX8_loaded_0 9 rfl) (by decide) (fun q => ?_) (fun q => ?_)
    · have hf := fif_pos q hf
      refine lv_iload_n C.1 C.2.1 (kd kX8_loaded_0 24 rfl) rfl (lv_at hl 2 rfl) ?_
      exact fl_iret C hP hS hf (kd kX8_loaded_0 25 rfl)
    have hf := fif_neg q hf
    refine lv_iload_n C.1 C.2.1 (kd kX8_loaded_0 10 rfl) rfl (lv_at hl 2 rfl) ?_
    refine lv_aload_n C.1 C.2.1 (kd kX8_loaded_0 11 rfl) rfl (lv_at hl 0 rfl) ?_
    refine fl_get (j := 19) (v := .ref (Γ.1 178)) C hP rfl (Nat.le_of_ble_eq_true rfl) rfl inX8 (Nat.le_of_ble_eq_true rfl) tw_881 rfl (kd kX8_loaded_0 12 rfl) ?_
    refine lv_iload_n C.1 C.2.1 (kd kX8_loaded_0 13 rfl) rfl (lv_at hl 3 rfl) ?_
    obtain ⟨hq, hf⟩ := fb_some hf
    refine fl_iald C hP rfl hq (kd kX8_loaded_0 14 rfl) ?_
    refine lv_iload_n C.1 C.2.1 (kd kX8_loaded_0 15 rfl) rfl (lv_at hl 1 rfl) ?_
    refine lv_icmp_ne (tgt := 31) C.1 C.2.1 (kd kX8_loaded_0 16 rfl) (by decide) (fun q => ?_) (fun q => ?_)
    · have hf := fif_neg q hf
      refine lv_iconst (v := (0 : Int32)) C.1 C.2.1 (kd kX8_loaded_0 19 rfl) (by decide) ?_
      exact w_X8_loaded_b32 C hK4 (v1) (v3) ((0 : Int32)) (v2) σ H locs ls hf hP hS (lv_sub hl [0, 1, 3] rfl)
    have hf := fif_pos q hf
    refine lv_iconst (v := (1 : Int32)) C.1 C.2.1 (kd kX8_loaded_0 17 rfl) (by decide) ?_
    refine lv_goto (tgt := 32) C.1 C.2.1 (kd kX8_loaded_0 18 rfl) (by decide) ?_
    exact w_X8_loaded_b32 C hK4 (v1) (v3) ((1 : Int32)) (v2) σ H locs ls hf hP hS (lv_sub hl [0, 1, 3] rfl)
def f_X8_loaded (x1 : Int32) (σ : fS) : Option (Int32 × fS) := f_X8_loaded_b4 fN (x1) ((0 : Int32)) ((0 : Int32)) σ
set_option maxRecDepth 100000 in
set_option maxHeartbeats 4000000 in
theorem m_X8_loaded {Γ : fGm} (hI : fI Γ) (l : Launch) {x1 : Int32} {σ : fS} {r : Int32} {σ' : fS} (hf : f_X8_loaded x1 σ = some (r, σ')) : Met l yX8_loaded (.code yX8_loaded cX8_loaded 4 (some .int) :: lw_g) ({ frames := 0, cells := 0, slots := 0, locals := 0 } : Room) (fPre Γ [.ref (Γ.1 164), .int x1] σ) (fQi Γ r σ') 0 0 (fAd Γ) := by
  refine fl_enter (own := RX8) hI (by decide +kernel) rfl (Nat.le_of_ble_eq_true rfl) ?_
  intro p e s m args below meth c ls C hl hP hS
  have hl : lv_has ls 4 [(0, .ref (Γ.1 164)), (1, .int x1)] := hl
  obtain ⟨H, hH⟩ : ∃ H, H = s.heap := ⟨_, rfl⟩
  obtain ⟨locs, hL⟩ : ∃ L : List Loc, L = [] := ⟨_, rfl⟩
  have hP : fH Γ σ H := by rw [hH]; exact hP
  have hS : va_S (fAd Γ) s.heap H locs := by rw [hH, hL]; exact hS
  suffices hw : W p l e ({ frames := 0, cells := 0, slots := 0, locals := 0 } : Room) s m args below meth c H locs 0 0 (MQ below (fQi Γ r σ') args s 0 0 (fAd Γ)) (F0 m 0 ls []) by rw [hH, hL] at hw; exact hw
  unfold f_X8_loaded at hf
  refine lv_iconst (v := (0 : Int32)) C.1 C.2.1 (kd kX8_loaded_0 0 rfl) (by decide) ?_
  refine lv_istore_n (lv' := [(2, .int (0 : Int32)), (0, .ref (Γ.1 164)), (1, .int x1)]) C.1 C.2.1 (kd kX8_loaded_0 1 rfl) rfl hl (Nat.le_of_ble_eq_true rfl) rfl (fun ls hl => ?_)
  refine lv_iconst (v := (0 : Int32)) C.1 C.2.1 (kd kX8_loaded_0 2 rfl) (by decide) ?_
  refine lv_istore_n (lv' := [(3, .int (0 : Int32)), (2, .int (0 : Int32)), (0, .ref (Γ.1 164)), (1, .int x1)]) C.1 C.2.1 (kd kX8_loaded_0 3 rfl) rfl hl (Nat.le_of_ble_eq_true rfl) rfl (fun ls hl => ?_)
  exact w_X8_loaded_b4 C fN (x1) ((0 : Int32)) ((0 : Int32)) σ H locs ls hf hP hS (lv_sub hl [2, 3, 1, 0] rfl)
def f_X8_crossing (x1 : Int32) (x2 : Int32) (σ : fS) : Option (Int32 × fS) := fcall (f_X8_isCrossing x1 σ) (fun r1_ σ1 => (if r1_ = 0 then some ((-10001 : Int32), σ1) else fcallv (f_X8_tell σ1) (fun σ2 => (if x2 = (0 : Int32) then fcall (f_X8_of x1 x2 σ2) (fun r3_ σ3 => some (r3_, σ3)) else if x2 = (1 : Int32) then fcall (f_X8_of x1 x2 σ2) (fun r4_ σ4 => some (r4_, σ4)) else if x2 = (2 : Int32) then fcall (f_X8_of x1 x2 σ2) (fun r5_ σ5 => some (r5_, σ5)) else if x2 = (3 : Int32) then fcall (f_X8_of x1 x2 σ2) (fun r6_ σ6 => some (r6_, σ6)) else if x2 = (4 : Int32) then fb x1 12 (some ((σ2 175 x1.toNatClampNeg), σ2)) else if x2 = (5 : Int32) then fb x1 12 (some ((σ2 173 x1.toNatClampNeg), σ2)) else if x2 = (6 : Int32) then fb x1 12 (some ((σ2 174 x1.toNatClampNeg), σ2)) else if x2 = (7 : Int32) then fb x1 12 (some ((σ2 172 x1.toNatClampNeg), σ2)) else if x2 = (8 : Int32) then fcall (f_X8_loaded x1 σ2) (fun r7_ σ7 => some (r7_, σ7)) else if x2 = (9 : Int32) then fb x1 12 (some ((σ2 177 x1.toNatClampNeg), σ2)) else some ((-10002 : Int32), σ2)))))
set_option maxRecDepth 100000 in
set_option maxHeartbeats 4000000 in
theorem m_X8_crossing {Γ : fGm} (hI : fI Γ) (l : Launch) {x1 : Int32} {x2 : Int32} {σ : fS} {r : Int32} {σ' : fS} (hf : f_X8_crossing x1 x2 σ = some (r, σ')) : Met l yX8_crossing (.code yX8_crossing cX8_crossing 3 (some .int) :: lw_g) ({ frames := 7, cells := 0, slots := 0, locals := 163 } : Room) (fPre Γ [.ref (Γ.1 164), .int x1, .int x2] σ) (fQi Γ r σ') 0 0 (fAd Γ) := by
  refine fl_enter (own := RX8) hI (by decide +kernel) rfl (Nat.le_of_ble_eq_true rfl) ?_
  intro p e s m args below meth c ls C hl hP hS
  have hl : lv_has ls 3 [(0, .ref (Γ.1 164)), (1, .int x1), (2, .int x2)] := hl
  obtain ⟨H, hH⟩ : ∃ H, H = s.heap := ⟨_, rfl⟩
  obtain ⟨locs, hL⟩ : ∃ L : List Loc, L = [] := ⟨_, rfl⟩
  have hP : fH Γ σ H := by rw [hH]; exact hP
  have hS : va_S (fAd Γ) s.heap H locs := by rw [hH, hL]; exact hS
  suffices hw : W p l e ({ frames := 7, cells := 0, slots := 0, locals := 163 } : Room) s m args below meth c H locs 0 0 (MQ below (fQi Γ r σ') args s 0 0 (fAd Γ)) (F0 m 0 ls []) by rw [hH, hL] at hw; exact hw
  unfold f_X8_crossing at hf
  refine lv_aload_n C.1 C.2.1 (kd kX8_crossing_0 0 rfl) rfl (lv_at hl 0 rfl) ?_
  refine lv_iload_n C.1 C.2.1 (kd kX8_crossing_0 1 rfl) rfl (lv_at hl 1 rfl) ?_
  obtain ⟨r1_, σ1, hσ1, hf⟩ := fcall_some hf
  refine fl_i hS (fl_runV (As := [.int x1]) (rest := []) C hP rfl (Nat.le_of_ble_eq_true rfl) rfl (m_X8_isCrossing C.2.2.2.2.2.2.2.2 l  hσ1) (fgV tw_1010 tw_1012 tw_28 tw_75 tw_1013) hd_X8_isCrossing ⟨rfl, rfl, Nat.le_of_ble_eq_true rfl, Nat.le_of_ble_eq_true rfl⟩ rfl hl.1 rfl (Nat.le_of_ble_eq_true rfl) (kd kX8_crossing_0 2 rfl)) (fun H locs hP hS => ?_)
  refine lv_if_ne (tgt := 12) C.1 C.2.1 (kd kX8_crossing_0 3 rfl) (by decide) (fun q => ?_) (fun q => ?_)
  · have hf := fif_neg q hf
    refine lv_aload_n C.1 C.2.1 (kd kX8_crossing_0 6 rfl) rfl (lv_at hl 0 rfl) ?_
    obtain ⟨σ2, hσ2, hf⟩ := fcallv_some hf
    refine fl_v hS (fl_runV (As := []) (rest := []) C hP rfl (Nat.le_of_ble_eq_true rfl) rfl (m_X8_tell C.2.2.2.2.2.2.2.2 l  hσ2) (fgV tw_1110 tw_1112 tw_41 tw_75 tw_1113) hd_X8_tell ⟨rfl, rfl, Nat.le_of_ble_eq_true rfl, Nat.le_of_ble_eq_true rfl⟩ rfl hl.1 rfl (Nat.le_of_ble_eq_true rfl) (kd kX8_crossing_0 7 rfl)) (fun H locs hP hS => ?_)
    refine lv_iload_n C.1 C.2.1 (kd kX8_crossing_0 8 rfl) rfl (lv_at hl 2 rfl) ?_
    by_cases q0 : x2 = (0 : Int32)
    · have hf := fif_pos q0 hf
      refine lv_tableIn (tgt := 72) C.1 C.2.1 (kd kX8_crossing_0 9 rfl) (by rw [q0] <;> decide) (by rw [q0] <;> decide) (by rw [q0] <;> rfl) (by decide) ?_
      refine lv_aload_n C.1 C.2.1 (kd kX8_crossing_0 10 rfl) rfl (lv_at hl 0 rfl) ?_
      refine lv_iload_n C.1 C.2.1 (kd kX8_crossing_0 11 rfl) rfl (lv_at hl 1 rfl) ?_
      refine lv_iload_n C.1 C.2.1 (kd kX8_crossing_0 12 rfl) rfl (lv_at hl 2 rfl) ?_
      obtain ⟨r3_, σ3, hσ3, hf⟩ := fcall_some hf
      refine fl_i hS (fl_runV (As := [.int x1, .int x2]) (rest := []) C hP rfl (Nat.le_of_ble_eq_true rfl) rfl (m_X8_of C.2.2.2.2.2.2.2.2 l  hσ3) (fgV tw_1118 tw_1120 tw_43 tw_75 tw_1121) hd_X8_of ⟨rfl, rfl, Nat.le_of_ble_eq_true rfl, Nat.le_of_ble_eq_true rfl⟩ rfl hl.1 rfl (Nat.le_of_ble_eq_true rfl) (kd kX8_crossing_0 13 rfl)) (fun H locs hP hS => ?_)
      exact fl_iret C hP hS hf (kd kX8_crossing_0 14 rfl)
    have hf := fif_neg q0 hf
    have z0 : ¬ x2.toInt = 0 := fi_ne q0 (by decide)
    by_cases q1 : x2 = (1 : Int32)
    · have hf := fif_pos q1 hf
      refine lv_tableIn (tgt := 72) C.1 C.2.1 (kd kX8_crossing_0 9 rfl) (by rw [q1] <;> decide) (by rw [q1] <;> decide) (by rw [q1] <;> rfl) (by decide) ?_
      refine lv_aload_n C.1 C.2.1 (kd kX8_crossing_0 10 rfl) rfl (lv_at hl 0 rfl) ?_
      refine lv_iload_n C.1 C.2.1 (kd kX8_crossing_0 11 rfl) rfl (lv_at hl 1 rfl) ?_
      refine lv_iload_n C.1 C.2.1 (kd kX8_crossing_0 12 rfl) rfl (lv_at hl 2 rfl) ?_
      obtain ⟨r4_, σ4, hσ4, hf⟩ := fcall_some hf
      refine fl_i hS (fl_runV (As := [.int x1, .int x2]) (rest := []) C hP rfl (Nat.le_of_ble_eq_true rfl) rfl (m_X8_of C.2.2.2.2.2.2.2.2 l  hσ4) (fgV tw_1118 tw_1120 tw_43 tw_75 tw_1121) hd_X8_of ⟨rfl, rfl, Nat.le_of_ble_eq_true rfl, Nat.le_of_ble_eq_true rfl⟩ rfl hl.1 rfl (Nat.le_of_ble_eq_true rfl) (kd kX8_crossing_0 13 rfl)) (fun H locs hP hS => ?_)
      exact fl_iret C hP hS hf (kd kX8_crossing_0 14 rfl)
    have hf := fif_neg q1 hf
    have z1 : ¬ x2.toInt = 1 := fi_ne q1 (by decide)
    by_cases q2 : x2 = (2 : Int32)
    · have hf := fif_pos q2 hf
      refine lv_tableIn (tgt := 72) C.1 C.2.1 (kd kX8_crossing_0 9 rfl) (by rw [q2] <;> decide) (by rw [q2] <;> decide) (by rw [q2] <;> rfl) (by decide) ?_
      refine lv_aload_n C.1 C.2.1 (kd kX8_crossing_0 10 rfl) rfl (lv_at hl 0 rfl) ?_
      refine lv_iload_n C.1 C.2.1 (kd kX8_crossing_0 11 rfl) rfl (lv_at hl 1 rfl) ?_
      refine lv_iload_n C.1 C.2.1 (kd kX8_crossing_0 12 rfl) rfl (lv_at hl 2 rfl) ?_
      obtain ⟨r5_, σ5, hσ5, hf⟩ := fcall_some hf
      refine fl_i hS (fl_runV (As := [.int x1, .int x2]) (rest := []) C hP rfl (Nat.le_of_ble_eq_true rfl) rfl (m_X8_of C.2.2.2.2.2.2.2.2 l  hσ5) (fgV tw_1118 tw_1120 tw_43 tw_75 tw_1121) hd_X8_of ⟨rfl, rfl, Nat.le_of_ble_eq_true rfl, Nat.le_of_ble_eq_true rfl⟩ rfl hl.1 rfl (Nat.le_of_ble_eq_true rfl) (kd kX8_crossing_0 13 rfl)) (fun H locs hP hS => ?_)
      exact fl_iret C hP hS hf (kd kX8_crossing_0 14 rfl)
    have hf := fif_neg q2 hf
    have z2 : ¬ x2.toInt = 2 := fi_ne q2 (by decide)
    by_cases q3 : x2 = (3 : Int32)
    · have hf := fif_pos q3 hf
      refine lv_tableIn (tgt := 72) C.1 C.2.1 (kd kX8_crossing_0 9 rfl) (by rw [q3] <;> decide) (by rw [q3] <;> decide) (by rw [q3] <;> rfl) (by decide) ?_
      refine lv_aload_n C.1 C.2.1 (kd kX8_crossing_0 10 rfl) rfl (lv_at hl 0 rfl) ?_
      refine lv_iload_n C.1 C.2.1 (kd kX8_crossing_0 11 rfl) rfl (lv_at hl 1 rfl) ?_
      refine lv_iload_n C.1 C.2.1 (kd kX8_crossing_0 12 rfl) rfl (lv_at hl 2 rfl) ?_
      obtain ⟨r6_, σ6, hσ6, hf⟩ := fcall_some hf
      refine fl_i hS (fl_runV (As := [.int x1, .int x2]) (rest := []) C hP rfl (Nat.le_of_ble_eq_true rfl) rfl (m_X8_of C.2.2.2.2.2.2.2.2 l  hσ6) (fgV tw_1118 tw_1120 tw_43 tw_75 tw_1121) hd_X8_of ⟨rfl, rfl, Nat.le_of_ble_eq_true rfl, Nat.le_of_ble_eq_true rfl⟩ rfl hl.1 rfl (Nat.le_of_ble_eq_true rfl) (kd kX8_crossing_0 13 rfl)) (fun H locs hP hS => ?_)
      exact fl_iret C hP hS hf (kd kX8_crossing_0 14 rfl)
    have hf := fif_neg q3 hf
    have z3 : ¬ x2.toInt = 3 := fi_ne q3 (by decide)
    by_cases q4 : x2 = (4 : Int32)
    · have hf := fif_pos q4 hf
      refine lv_tableIn (tgt := 79) C.1 C.2.1 (kd kX8_crossing_0 9 rfl) (by rw [q4] <;> decide) (by rw [q4] <;> decide) (by rw [q4] <;> rfl) (by decide) ?_
      refine lv_aload_n C.1 C.2.1 (kd kX8_crossing_0 15 rfl) rfl (lv_at hl 0 rfl) ?_
      refine fl_get (j := 16) (v := .ref (Γ.1 175)) C hP rfl (Nat.le_of_ble_eq_true rfl) rfl inX8 (Nat.le_of_ble_eq_true rfl) tw_878 rfl (kd kX8_crossing_0 16 rfl) ?_
      refine lv_iload_n C.1 C.2.1 (kd kX8_crossing_0 17 rfl) rfl (lv_at hl 1 rfl) ?_
      obtain ⟨hq, hf⟩ := fb_some hf
      refine fl_iald C hP rfl hq (kd kX8_crossing_0 18 rfl) ?_
      exact fl_iret C hP hS hf (kd kX8_crossing_0 19 rfl)
    have hf := fif_neg q4 hf
    have z4 : ¬ x2.toInt = 4 := fi_ne q4 (by decide)
    by_cases q5 : x2 = (5 : Int32)
    · have hf := fif_pos q5 hf
      refine lv_tableIn (tgt := 86) C.1 C.2.1 (kd kX8_crossing_0 9 rfl) (by rw [q5] <;> decide) (by rw [q5] <;> decide) (by rw [q5] <;> rfl) (by decide) ?_
      refine lv_aload_n C.1 C.2.1 (kd kX8_crossing_0 20 rfl) rfl (lv_at hl 0 rfl) ?_
      refine fl_get (j := 14) (v := .ref (Γ.1 173)) C hP rfl (Nat.le_of_ble_eq_true rfl) rfl inX8 (Nat.le_of_ble_eq_true rfl) tw_876 rfl (kd kX8_crossing_0 21 rfl) ?_
      refine lv_iload_n C.1 C.2.1 (kd kX8_crossing_0 22 rfl) rfl (lv_at hl 1 rfl) ?_
      obtain ⟨hq, hf⟩ := fb_some hf
      refine fl_iald C hP rfl hq (kd kX8_crossing_0 23 rfl) ?_
      exact fl_iret C hP hS hf (kd kX8_crossing_0 24 rfl)
    have hf := fif_neg q5 hf
    have z5 : ¬ x2.toInt = 5 := fi_ne q5 (by decide)
    by_cases q6 : x2 = (6 : Int32)
    · have hf := fif_pos q6 hf
      refine lv_tableIn (tgt := 93) C.1 C.2.1 (kd kX8_crossing_0 9 rfl) (by rw [q6] <;> decide) (by rw [q6] <;> decide) (by rw [q6] <;> rfl) (by decide) ?_
      refine lv_aload_n C.1 C.2.1 (kd kX8_crossing_0 25 rfl) rfl (lv_at hl 0 rfl) ?_
      refine fl_get (j := 15) (v := .ref (Γ.1 174)) C hP rfl (Nat.le_of_ble_eq_true rfl) rfl inX8 (Nat.le_of_ble_eq_true rfl) tw_877 rfl (kd kX8_crossing_0 26 rfl) ?_
      refine lv_iload_n C.1 C.2.1 (kd kX8_crossing_0 27 rfl) rfl (lv_at hl 1 rfl) ?_
      obtain ⟨hq, hf⟩ := fb_some hf
      refine fl_iald C hP rfl hq (kd kX8_crossing_0 28 rfl) ?_
      exact fl_iret C hP hS hf (kd kX8_crossing_0 29 rfl)
    have hf := fif_neg q6 hf
    have z6 : ¬ x2.toInt = 6 := fi_ne q6 (by decide)
    by_cases q7 : x2 = (7 : Int32)
    · have hf := fif_pos q7 hf
      refine lv_tableIn (tgt := 100) C.1 C.2.1 (kd kX8_crossing_0 9 rfl) (by rw [q7] <;> decide) (by rw [q7] <;> decide) (by rw [q7] <;> rfl) (by decide) ?_
      refine lv_aload_n C.1 C.2.1 (kd kX8_crossing_0 30 rfl) rfl (lv_at hl 0 rfl) ?_
      refine fl_get (j := 13) (v := .ref (Γ.1 172)) C hP rfl (Nat.le_of_ble_eq_true rfl) rfl inX8 (Nat.le_of_ble_eq_true rfl) tw_875 rfl (kd kX8_crossing_0 31 rfl) ?_
      refine lv_iload_n C.1 C.2.1 (kd kX8_crossing_0 32 rfl) rfl (lv_at hl 1 rfl) ?_
      obtain ⟨hq, hf⟩ := fb_some hf
      refine fl_iald C hP rfl hq (kd kX8_crossing_0 33 rfl) ?_
      exact fl_iret C hP hS hf (kd kX8_crossing_0 34 rfl)
    have hf := fif_neg q7 hf
    have z7 : ¬ x2.toInt = 7 := fi_ne q7 (by decide)
    by_cases q8 : x2 = (8 : Int32)
    · have hf := fif_pos q8 hf
      refine lv_tableIn (tgt := 107) C.1 C.2.1 (kd kX8_crossing_0 9 rfl) (by rw [q8] <;> decide) (by rw [q8] <;> decide) (by rw [q8] <;> rfl) (by decide) ?_
      refine lv_aload_n C.1 C.2.1 (kd kX8_crossing_0 35 rfl) rfl (lv_at hl 0 rfl) ?_
      refine lv_iload_n C.1 C.2.1 (kd kX8_crossing_0 36 rfl) rfl (lv_at hl 1 rfl) ?_
      obtain ⟨r7_, σ7, hσ7, hf⟩ := fcall_some hf
      refine fl_i hS (fl_runV (As := [.int x1]) (rest := []) C hP rfl (Nat.le_of_ble_eq_true rfl) rfl (m_X8_loaded C.2.2.2.2.2.2.2.2 l  hσ7) (fgV tw_1191 tw_1193 tw_59 tw_75 tw_1194) hd_X8_loaded ⟨rfl, rfl, Nat.le_of_ble_eq_true rfl, Nat.le_of_ble_eq_true rfl⟩ rfl hl.1 rfl (Nat.le_of_ble_eq_true rfl) (kd kX8_crossing_0 37 rfl)) (fun H locs hP hS => ?_)
      exact fl_iret C hP hS hf (kd kX8_crossing_0 38 rfl)
    have hf := fif_neg q8 hf
    have z8 : ¬ x2.toInt = 8 := fi_ne q8 (by decide)
    by_cases q9 : x2 = (9 : Int32)
    · have hf := fif_pos q9 hf
      refine lv_tableIn (tgt := 113) C.1 C.2.1 (kd kX8_crossing_0 9 rfl) (by rw [q9] <;> decide) (by rw [q9] <;> decide) (by rw [q9] <;> rfl) (by decide) ?_
      refine lv_aload_n C.1 C.2.1 (kd kX8_crossing_0 39 rfl) rfl (lv_at hl 0 rfl) ?_
      refine fl_get (j := 18) (v := .ref (Γ.1 177)) C hP rfl (Nat.le_of_ble_eq_true rfl) rfl inX8 (Nat.le_of_ble_eq_true rfl) tw_880 rfl (kd kX8_crossing_0 40 rfl) ?_
      refine lv_iload_n C.1 C.2.1 (kd kX8_crossing_0 41 rfl) rfl (lv_at hl 1 rfl) ?_
      obtain ⟨hq, hf⟩ := fb_some hf
      refine fl_iald C hP rfl hq (kd kX8_crossing_0 42 rfl) ?_
      exact fl_iret C hP hS hf (kd kX8_crossing_0 43 rfl)
    have hf := fif_neg q9 hf
    have z9 : ¬ x2.toInt = 9 := fi_ne q9 (by decide)
    refine lv_tableOut (tgt := 120) C.1 C.2.1 (kd kX8_crossing_0 9 rfl) (by omega) (by decide) ?_
    refine lv_sipush (v := (-10002 : Int32)) C.1 C.2.1 (kd kX8_crossing_0 44 rfl) (by decide) ?_
    exact fl_iret C hP hS hf (kd kX8_crossing_0 45 rfl)
  have hf := fif_pos q hf
  refine lv_sipush (v := (-10001 : Int32)) C.1 C.2.1 (kd kX8_crossing_0 4 rfl) (by decide) ?_
  exact fl_iret C hP hS hf (kd kX8_crossing_0 5 rfl)
def f_X8_decided (x1 : Int32) (σ : fS) : Option (Int32 × fS) := fcallv (f_X8_tell σ) (fun σ1 => fb (122 : Int32) 277 (fcall (f_X8_in x1 (0 : Int32) ((σ1 165 (122 : Int32).toNatClampNeg) - (1 : Int32)) σ1) (fun r2_ σ2 => (if r2_ = 0 then some ((-10001 : Int32), σ2) else fb x1 12 (some ((σ2 171 x1.toNatClampNeg), σ2))))))
set_option maxRecDepth 100000 in
set_option maxHeartbeats 4000000 in
theorem m_X8_decided {Γ : fGm} (hI : fI Γ) (l : Launch) {x1 : Int32} {σ : fS} {r : Int32} {σ' : fS} (hf : f_X8_decided x1 σ = some (r, σ')) : Met l yX8_decided (.code yX8_decided cX8_decided 2 (some .int) :: lw_g) ({ frames := 7, cells := 0, slots := 0, locals := 163 } : Room) (fPre Γ [.ref (Γ.1 164), .int x1] σ) (fQi Γ r σ') 0 0 (fAd Γ) := by
  refine fl_enter (own := RX8) hI (by decide +kernel) rfl (Nat.le_of_ble_eq_true rfl) ?_
  intro p e s m args below meth c ls C hl hP hS
  have hl : lv_has ls 2 [(0, .ref (Γ.1 164)), (1, .int x1)] := hl
  obtain ⟨H, hH⟩ : ∃ H, H = s.heap := ⟨_, rfl⟩
  obtain ⟨locs, hL⟩ : ∃ L : List Loc, L = [] := ⟨_, rfl⟩
  have hP : fH Γ σ H := by rw [hH]; exact hP
  have hS : va_S (fAd Γ) s.heap H locs := by rw [hH, hL]; exact hS
  suffices hw : W p l e ({ frames := 7, cells := 0, slots := 0, locals := 163 } : Room) s m args below meth c H locs 0 0 (MQ below (fQi Γ r σ') args s 0 0 (fAd Γ)) (F0 m 0 ls []) by rw [hH, hL] at hw; exact hw
  unfold f_X8_decided at hf
  refine lv_aload_n C.1 C.2.1 (kd kX8_decided_0 0 rfl) rfl (lv_at hl 0 rfl) ?_
  obtain ⟨σ1, hσ1, hf⟩ := fcallv_some hf
  refine fl_v hS (fl_runV (As := []) (rest := []) C hP rfl (Nat.le_of_ble_eq_true rfl) rfl (m_X8_tell C.2.2.2.2.2.2.2.2 l  hσ1) (fgV tw_1110 tw_1112 tw_41 tw_75 tw_1113) hd_X8_tell ⟨rfl, rfl, Nat.le_of_ble_eq_true rfl, Nat.le_of_ble_eq_true rfl⟩ rfl hl.1 rfl (Nat.le_of_ble_eq_true rfl) (kd kX8_decided_0 1 rfl)) (fun H locs hP hS => ?_)
  refine lv_iload_n C.1 C.2.1 (kd kX8_decided_0 2 rfl) rfl (lv_at hl 1 rfl) ?_
  refine lv_iconst (v := (0 : Int32)) C.1 C.2.1 (kd kX8_decided_0 3 rfl) (by decide) ?_
  refine lv_aload_n C.1 C.2.1 (kd kX8_decided_0 4 rfl) rfl (lv_at hl 0 rfl) ?_
  refine fl_get (j := 0) (v := .ref (Γ.1 165)) C hP rfl (Nat.le_of_ble_eq_true rfl) rfl inX8 (Nat.le_of_ble_eq_true rfl) tw_862 rfl (kd kX8_decided_0 5 rfl) ?_
  refine lv_bipush (v := (122 : Int32)) C.1 C.2.1 (kd kX8_decided_0 6 rfl) (by decide) ?_
  obtain ⟨hq, hf⟩ := fb_some hf
  refine fl_iald C hP rfl hq (kd kX8_decided_0 7 rfl) ?_
  refine lv_iconst (v := (1 : Int32)) C.1 C.2.1 (kd kX8_decided_0 8 rfl) (by decide) ?_
  refine lv_isub C.1 C.2.1 (kd kX8_decided_0 9 rfl) ?_
  obtain ⟨r2_, σ2, hσ2, hf⟩ := fcall_some hf
  refine fl_i hS (fl_runS (As := [.int x1, .int (0 : Int32), .int ((σ1 165 (122 : Int32).toNatClampNeg) - (1 : Int32))]) (rest := []) C hP (m_X8_in C.2.2.2.2.2.2.2.2 l  hσ2) (fgS tw_968 tw_969 tw_75 tw_970) hs_X8_in ⟨rfl, rfl, Nat.le_of_ble_eq_true rfl, Nat.le_of_ble_eq_true rfl⟩ rfl hl.1 rfl (Nat.le_of_ble_eq_true rfl) (kd kX8_decided_0 10 rfl)) (fun H locs hP hS => ?_)
  refine lv_if_eq (tgt := 30) C.1 C.2.1 (kd kX8_decided_0 11 rfl) (by decide) (fun q => ?_) (fun q => ?_)
  · have hf := fif_pos q hf
    refine lv_sipush (v := (-10001 : Int32)) C.1 C.2.1 (kd kX8_decided_0 17 rfl) (by decide) ?_
    exact fl_iret C hP hS hf (kd kX8_decided_0 18 rfl)
  have hf := fif_neg q hf
  refine lv_aload_n C.1 C.2.1 (kd kX8_decided_0 12 rfl) rfl (lv_at hl 0 rfl) ?_
  refine fl_get (j := 12) (v := .ref (Γ.1 171)) C hP rfl (Nat.le_of_ble_eq_true rfl) rfl inX8 (Nat.le_of_ble_eq_true rfl) tw_874 rfl (kd kX8_decided_0 13 rfl) ?_
  refine lv_iload_n C.1 C.2.1 (kd kX8_decided_0 14 rfl) rfl (lv_at hl 1 rfl) ?_
  obtain ⟨hq, hf⟩ := fb_some hf
  refine fl_iald C hP rfl hq (kd kX8_decided_0 15 rfl) ?_
  refine lv_goto (tgt := 33) C.1 C.2.1 (kd kX8_decided_0 16 rfl) (by decide) ?_
  exact fl_iret C hP hS hf (kd kX8_decided_0 18 rfl)
def f_X8_vehicle (x1 : Int32) (x2 : Int32) (σ : fS) : Option (Int32 × fS) := fb (171 : Int32) 277 (fcall (f_X8_in x1 (0 : Int32) ((σ 165 (171 : Int32).toNatClampNeg) - (1 : Int32)) σ) (fun r1_ σ1 => (if r1_ = 0 then some ((-10001 : Int32), σ1) else fcallv (f_X8_tell σ1) (fun σ2 => (if x2 = (0 : Int32) then fcall (f_X8_vehicleOf x1 x2 σ2) (fun r3_ σ3 => some (r3_, σ3)) else if x2 = (1 : Int32) then fcall (f_X8_vehicleOf x1 x2 σ2) (fun r4_ σ4 => some (r4_, σ4)) else if x2 = (2 : Int32) then fcall (f_X8_vehicleOf x1 x2 σ2) (fun r5_ σ5 => some (r5_, σ5)) else if x2 = (3 : Int32) then fb x1 24 (some ((σ2 178 x1.toNatClampNeg), σ2)) else if x2 = (4 : Int32) then fb x1 24 (some ((σ2 179 x1.toNatClampNeg), σ2)) else if x2 = (5 : Int32) then fb x1 24 (some ((σ2 180 x1.toNatClampNeg), σ2)) else if x2 = (6 : Int32) then fb x1 24 (some ((σ2 181 x1.toNatClampNeg), σ2)) else some ((-10002 : Int32), σ2))))))
set_option maxRecDepth 100000 in
set_option maxHeartbeats 4000000 in
theorem m_X8_vehicle {Γ : fGm} (hI : fI Γ) (l : Launch) {x1 : Int32} {x2 : Int32} {σ : fS} {r : Int32} {σ' : fS} (hf : f_X8_vehicle x1 x2 σ = some (r, σ')) : Met l yX8_vehicle (.code yX8_vehicle cX8_vehicle 3 (some .int) :: lw_g) ({ frames := 7, cells := 0, slots := 0, locals := 163 } : Room) (fPre Γ [.ref (Γ.1 164), .int x1, .int x2] σ) (fQi Γ r σ') 0 0 (fAd Γ) := by
  refine fl_enter (own := RX8) hI (by decide +kernel) rfl (Nat.le_of_ble_eq_true rfl) ?_
  intro p e s m args below meth c ls C hl hP hS
  have hl : lv_has ls 3 [(0, .ref (Γ.1 164)), (1, .int x1), (2, .int x2)] := hl
  obtain ⟨H, hH⟩ : ∃ H, H = s.heap := ⟨_, rfl⟩
  obtain ⟨locs, hL⟩ : ∃ L : List Loc, L = [] := ⟨_, rfl⟩
  have hP : fH Γ σ H := by rw [hH]; exact hP
  have hS : va_S (fAd Γ) s.heap H locs := by rw [hH, hL]; exact hS
  suffices hw : W p l e ({ frames := 7, cells := 0, slots := 0, locals := 163 } : Room) s m args below meth c H locs 0 0 (MQ below (fQi Γ r σ') args s 0 0 (fAd Γ)) (F0 m 0 ls []) by rw [hH, hL] at hw; exact hw
  unfold f_X8_vehicle at hf
  refine lv_iload_n C.1 C.2.1 (kd kX8_vehicle_0 0 rfl) rfl (lv_at hl 1 rfl) ?_
  refine lv_iconst (v := (0 : Int32)) C.1 C.2.1 (kd kX8_vehicle_0 1 rfl) (by decide) ?_
  refine lv_aload_n C.1 C.2.1 (kd kX8_vehicle_0 2 rfl) rfl (lv_at hl 0 rfl) ?_
  refine fl_get (j := 0) (v := .ref (Γ.1 165)) C hP rfl (Nat.le_of_ble_eq_true rfl) rfl inX8 (Nat.le_of_ble_eq_true rfl) tw_862 rfl (kd kX8_vehicle_0 3 rfl) ?_
  refine lv_sipush (v := (171 : Int32)) C.1 C.2.1 (kd kX8_vehicle_0 4 rfl) (by decide) ?_
  obtain ⟨hq, hf⟩ := fb_some hf
  refine fl_iald C hP rfl hq (kd kX8_vehicle_0 5 rfl) ?_
  refine lv_iconst (v := (1 : Int32)) C.1 C.2.1 (kd kX8_vehicle_0 6 rfl) (by decide) ?_
  refine lv_isub C.1 C.2.1 (kd kX8_vehicle_0 7 rfl) ?_
  obtain ⟨r1_, σ1, hσ1, hf⟩ := fcall_some hf
  refine fl_i hS (fl_runS (As := [.int x1, .int (0 : Int32), .int ((σ 165 (171 : Int32).toNatClampNeg) - (1 : Int32))]) (rest := []) C hP (m_X8_in C.2.2.2.2.2.2.2.2 l  hσ1) (fgS tw_968 tw_969 tw_75 tw_970) hs_X8_in ⟨rfl, rfl, Nat.le_of_ble_eq_true rfl, Nat.le_of_ble_eq_true rfl⟩ rfl hl.1 rfl (Nat.le_of_ble_eq_true rfl) (kd kX8_vehicle_0 8 rfl)) (fun H locs hP hS => ?_)
  refine lv_if_ne (tgt := 22) C.1 C.2.1 (kd kX8_vehicle_0 9 rfl) (by decide) (fun q => ?_) (fun q => ?_)
  · have hf := fif_neg q hf
    refine lv_aload_n C.1 C.2.1 (kd kX8_vehicle_0 12 rfl) rfl (lv_at hl 0 rfl) ?_
    obtain ⟨σ2, hσ2, hf⟩ := fcallv_some hf
    refine fl_v hS (fl_runV (As := []) (rest := []) C hP rfl (Nat.le_of_ble_eq_true rfl) rfl (m_X8_tell C.2.2.2.2.2.2.2.2 l  hσ2) (fgV tw_1110 tw_1112 tw_41 tw_75 tw_1113) hd_X8_tell ⟨rfl, rfl, Nat.le_of_ble_eq_true rfl, Nat.le_of_ble_eq_true rfl⟩ rfl hl.1 rfl (Nat.le_of_ble_eq_true rfl) (kd kX8_vehicle_0 13 rfl)) (fun H locs hP hS => ?_)
    refine lv_iload_n C.1 C.2.1 (kd kX8_vehicle_0 14 rfl) rfl (lv_at hl 2 rfl) ?_
    by_cases q0 : x2 = (0 : Int32)
    · have hf := fif_pos q0 hf
      refine lv_tableIn (tgt := 68) C.1 C.2.1 (kd kX8_vehicle_0 15 rfl) (by rw [q0] <;> decide) (by rw [q0] <;> decide) (by rw [q0] <;> rfl) (by decide) ?_
      refine lv_aload_n C.1 C.2.1 (kd kX8_vehicle_0 16 rfl) rfl (lv_at hl 0 rfl) ?_
      refine lv_iload_n C.1 C.2.1 (kd kX8_vehicle_0 17 rfl) rfl (lv_at hl 1 rfl) ?_
      refine lv_iload_n C.1 C.2.1 (kd kX8_vehicle_0 18 rfl) rfl (lv_at hl 2 rfl) ?_
      obtain ⟨r3_, σ3, hσ3, hf⟩ := fcall_some hf
      refine fl_i hS (fl_runV (As := [.int x1, .int x2]) (rest := []) C hP rfl (Nat.le_of_ble_eq_true rfl) rfl (m_X8_vehicleOf C.2.2.2.2.2.2.2.2 l  hσ3) (fgV tw_1163 tw_1165 tw_54 tw_75 tw_1166) hd_X8_vehicleOf ⟨rfl, rfl, Nat.le_of_ble_eq_true rfl, Nat.le_of_ble_eq_true rfl⟩ rfl hl.1 rfl (Nat.le_of_ble_eq_true rfl) (kd kX8_vehicle_0 19 rfl)) (fun H locs hP hS => ?_)
      exact fl_iret C hP hS hf (kd kX8_vehicle_0 20 rfl)
    have hf := fif_neg q0 hf
    have z0 : ¬ x2.toInt = 0 := fi_ne q0 (by decide)
    by_cases q1 : x2 = (1 : Int32)
    · have hf := fif_pos q1 hf
      refine lv_tableIn (tgt := 68) C.1 C.2.1 (kd kX8_vehicle_0 15 rfl) (by rw [q1] <;> decide) (by rw [q1] <;> decide) (by rw [q1] <;> rfl) (by decide) ?_
      refine lv_aload_n C.1 C.2.1 (kd kX8_vehicle_0 16 rfl) rfl (lv_at hl 0 rfl) ?_
      refine lv_iload_n C.1 C.2.1 (kd kX8_vehicle_0 17 rfl) rfl (lv_at hl 1 rfl) ?_
      refine lv_iload_n C.1 C.2.1 (kd kX8_vehicle_0 18 rfl) rfl (lv_at hl 2 rfl) ?_
      obtain ⟨r4_, σ4, hσ4, hf⟩ := fcall_some hf
      refine fl_i hS (fl_runV (As := [.int x1, .int x2]) (rest := []) C hP rfl (Nat.le_of_ble_eq_true rfl) rfl (m_X8_vehicleOf C.2.2.2.2.2.2.2.2 l  hσ4) (fgV tw_1163 tw_1165 tw_54 tw_75 tw_1166) hd_X8_vehicleOf ⟨rfl, rfl, Nat.le_of_ble_eq_true rfl, Nat.le_of_ble_eq_true rfl⟩ rfl hl.1 rfl (Nat.le_of_ble_eq_true rfl) (kd kX8_vehicle_0 19 rfl)) (fun H locs hP hS => ?_)
      exact fl_iret C hP hS hf (kd kX8_vehicle_0 20 rfl)
    have hf := fif_neg q1 hf
    have z1 : ¬ x2.toInt = 1 := fi_ne q1 (by decide)
    by_cases q2 : x2 = (2 : Int32)
    · have hf := fif_pos q2 hf
      refine lv_tableIn (tgt := 68) C.1 C.2.1 (kd kX8_vehicle_0 15 rfl) (by rw [q2] <;> decide) (by rw [q2] <;> decide) (by rw [q2] <;> rfl) (by decide) ?_
      refine lv_aload_n C.1 C.2.1 (kd kX8_vehicle_0 16 rfl) rfl (lv_at hl 0 rfl) ?_
      refine lv_iload_n C.1 C.2.1 (kd kX8_vehicle_0 17 rfl) rfl (lv_at hl 1 rfl) ?_
      refine lv_iload_n C.1 C.2.1 (kd kX8_vehicle_0 18 rfl) rfl (lv_at hl 2 rfl) ?_
      obtain ⟨r5_, σ5, hσ5, hf⟩ := fcall_some hf
      refine fl_i hS (fl_runV (As := [.int x1, .int x2]) (rest := []) C hP rfl (Nat.le_of_ble_eq_true rfl) rfl (m_X8_vehicleOf C.2.2.2.2.2.2.2.2 l  hσ5) (fgV tw_1163 tw_1165 tw_54 tw_75 tw_1166) hd_X8_vehicleOf ⟨rfl, rfl, Nat.le_of_ble_eq_true rfl, Nat.le_of_ble_eq_true rfl⟩ rfl hl.1 rfl (Nat.le_of_ble_eq_true rfl) (kd kX8_vehicle_0 19 rfl)) (fun H locs hP hS => ?_)
      exact fl_iret C hP hS hf (kd kX8_vehicle_0 20 rfl)
    have hf := fif_neg q2 hf
    have z2 : ¬ x2.toInt = 2 := fi_ne q2 (by decide)
    by_cases q3 : x2 = (3 : Int32)
    · have hf := fif_pos q3 hf
      refine lv_tableIn (tgt := 75) C.1 C.2.1 (kd kX8_vehicle_0 15 rfl) (by rw [q3] <;> decide) (by rw [q3] <;> decide) (by rw [q3] <;> rfl) (by decide) ?_
      refine lv_aload_n C.1 C.2.1 (kd kX8_vehicle_0 21 rfl) rfl (lv_at hl 0 rfl) ?_
      refine fl_get (j := 19) (v := .ref (Γ.1 178)) C hP rfl (Nat.le_of_ble_eq_true rfl) rfl inX8 (Nat.le_of_ble_eq_true rfl) tw_881 rfl (kd kX8_vehicle_0 22 rfl) ?_
      refine lv_iload_n C.1 C.2.1 (kd kX8_vehicle_0 23 rfl) rfl (lv_at hl 1 rfl) ?_
      obtain ⟨hq, hf⟩ := fb_some hf
      refine fl_iald C hP rfl hq (kd kX8_vehicle_0 24 rfl) ?_
      exact fl_iret C hP hS hf (kd kX8_vehicle_0 25 rfl)
    have hf := fif_neg q3 hf
    have z3 : ¬ x2.toInt = 3 := fi_ne q3 (by decide)
    by_cases q4 : x2 = (4 : Int32)
    · have hf := fif_pos q4 hf
      refine lv_tableIn (tgt := 82) C.1 C.2.1 (kd kX8_vehicle_0 15 rfl) (by rw [q4] <;> decide) (by rw [q4] <;> decide) (by rw [q4] <;> rfl) (by decide) ?_
      refine lv_aload_n C.1 C.2.1 (kd kX8_vehicle_0 26 rfl) rfl (lv_at hl 0 rfl) ?_
      refine fl_get (j := 20) (v := .ref (Γ.1 179)) C hP rfl (Nat.le_of_ble_eq_true rfl) rfl inX8 (Nat.le_of_ble_eq_true rfl) tw_882 rfl (kd kX8_vehicle_0 27 rfl) ?_
      refine lv_iload_n C.1 C.2.1 (kd kX8_vehicle_0 28 rfl) rfl (lv_at hl 1 rfl) ?_
      obtain ⟨hq, hf⟩ := fb_some hf
      refine fl_iald C hP rfl hq (kd kX8_vehicle_0 29 rfl) ?_
      exact fl_iret C hP hS hf (kd kX8_vehicle_0 30 rfl)
    have hf := fif_neg q4 hf
    have z4 : ¬ x2.toInt = 4 := fi_ne q4 (by decide)
    by_cases q5 : x2 = (5 : Int32)
    · have hf := fif_pos q5 hf
      refine lv_tableIn (tgt := 89) C.1 C.2.1 (kd kX8_vehicle_0 15 rfl) (by rw [q5] <;> decide) (by rw [q5] <;> decide) (by rw [q5] <;> rfl) (by decide) ?_
      refine lv_aload_n C.1 C.2.1 (kd kX8_vehicle_0 31 rfl) rfl (lv_at hl 0 rfl) ?_
      refine fl_get (j := 21) (v := .ref (Γ.1 180)) C hP rfl (Nat.le_of_ble_eq_true rfl) rfl inX8 (Nat.le_of_ble_eq_true rfl) tw_883 rfl (kd kX8_vehicle_0 32 rfl) ?_
      refine lv_iload_n C.1 C.2.1 (kd kX8_vehicle_0 33 rfl) rfl (lv_at hl 1 rfl) ?_
      obtain ⟨hq, hf⟩ := fb_some hf
      refine fl_iald C hP rfl hq (kd kX8_vehicle_0 34 rfl) ?_
      exact fl_iret C hP hS hf (kd kX8_vehicle_0 35 rfl)
    have hf := fif_neg q5 hf
    have z5 : ¬ x2.toInt = 5 := fi_ne q5 (by decide)
    by_cases q6 : x2 = (6 : Int32)
    · have hf := fif_pos q6 hf
      refine lv_tableIn (tgt := 96) C.1 C.2.1 (kd kX8_vehicle_0 15 rfl) (by rw [q6] <;> decide) (by rw [q6] <;> decide) (by rw [q6] <;> rfl) (by decide) ?_
      refine lv_aload_n C.1 C.2.1 (kd kX8_vehicle_0 36 rfl) rfl (lv_at hl 0 rfl) ?_
      refine fl_get (j := 22) (v := .ref (Γ.1 181)) C hP rfl (Nat.le_of_ble_eq_true rfl) rfl inX8 (Nat.le_of_ble_eq_true rfl) tw_884 rfl (kd kX8_vehicle_0 37 rfl) ?_
      refine lv_iload_n C.1 C.2.1 (kd kX8_vehicle_0 38 rfl) rfl (lv_at hl 1 rfl) ?_
      obtain ⟨hq, hf⟩ := fb_some hf
      refine fl_iald C hP rfl hq (kd kX8_vehicle_0 39 rfl) ?_
      exact fl_iret C hP hS hf (kd kX8_vehicle_0 40 rfl)
    have hf := fif_neg q6 hf
    have z6 : ¬ x2.toInt = 6 := fi_ne q6 (by decide)
    refine lv_tableOut (tgt := 103) C.1 C.2.1 (kd kX8_vehicle_0 15 rfl) (by omega) (by decide) ?_
    refine lv_sipush (v := (-10002 : Int32)) C.1 C.2.1 (kd kX8_vehicle_0 41 rfl) (by decide) ?_
    exact fl_iret C hP hS hf (kd kX8_vehicle_0 42 rfl)
  have hf := fif_pos q hf
  refine lv_sipush (v := (-10001 : Int32)) C.1 C.2.1 (kd kX8_vehicle_0 10 rfl) (by decide) ?_
  exact fl_iret C hP hS hf (kd kX8_vehicle_0 11 rfl)
def f_X8_connection (x1 : Int32) (x2 : Int32) (σ : fS) : Option (Int32 × fS) := fb (244 : Int32) 277 (fcall (f_X8_in x1 (0 : Int32) ((σ 165 (244 : Int32).toNatClampNeg) - (1 : Int32)) σ) (fun r1_ σ1 => (if r1_ = 0 then some ((-10001 : Int32), σ1) else fcallv (f_X8_tell σ1) (fun σ2 => fcall (f_X8_in x2 (0 : Int32) (3 : Int32) σ2) (fun r3_ σ3 => (if r3_ = 0 then (if x2 = (4 : Int32) then fcall (f_X8_kindOf x1 σ3) (fun r4_ σ4 => some (r4_, σ4)) else some ((-10002 : Int32), σ3)) else fcall (f_X8_connectionOf x1 x2 σ3) (fun r5_ σ5 => some (r5_, σ5))))))))
set_option maxRecDepth 100000 in
set_option maxHeartbeats 4000000 in
theorem m_X8_connection {Γ : fGm} (hI : fI Γ) (l : Launch) {x1 : Int32} {x2 : Int32} {σ : fS} {r : Int32} {σ' : fS} (hf : f_X8_connection x1 x2 σ = some (r, σ')) : Met l yX8_connection (.code yX8_connection cX8_connection 3 (some .int) :: lw_g) ({ frames := 7, cells := 0, slots := 0, locals := 163 } : Room) (fPre Γ [.ref (Γ.1 164), .int x1, .int x2] σ) (fQi Γ r σ') 0 0 (fAd Γ) := by
  refine fl_enter (own := RX8) hI (by decide +kernel) rfl (Nat.le_of_ble_eq_true rfl) ?_
  intro p e s m args below meth c ls C hl hP hS
  have hl : lv_has ls 3 [(0, .ref (Γ.1 164)), (1, .int x1), (2, .int x2)] := hl
  obtain ⟨H, hH⟩ : ∃ H, H = s.heap := ⟨_, rfl⟩
  obtain ⟨locs, hL⟩ : ∃ L : List Loc, L = [] := ⟨_, rfl⟩
  have hP : fH Γ σ H := by rw [hH]; exact hP
  have hS : va_S (fAd Γ) s.heap H locs := by rw [hH, hL]; exact hS
  suffices hw : W p l e ({ frames := 7, cells := 0, slots := 0, locals := 163 } : Room) s m args below meth c H locs 0 0 (MQ below (fQi Γ r σ') args s 0 0 (fAd Γ)) (F0 m 0 ls []) by rw [hH, hL] at hw; exact hw
  unfold f_X8_connection at hf
  refine lv_iload_n C.1 C.2.1 (kd kX8_connection_0 0 rfl) rfl (lv_at hl 1 rfl) ?_
  refine lv_iconst (v := (0 : Int32)) C.1 C.2.1 (kd kX8_connection_0 1 rfl) (by decide) ?_
  refine lv_aload_n C.1 C.2.1 (kd kX8_connection_0 2 rfl) rfl (lv_at hl 0 rfl) ?_
  refine fl_get (j := 0) (v := .ref (Γ.1 165)) C hP rfl (Nat.le_of_ble_eq_true rfl) rfl inX8 (Nat.le_of_ble_eq_true rfl) tw_862 rfl (kd kX8_connection_0 3 rfl) ?_
  refine lv_sipush (v := (244 : Int32)) C.1 C.2.1 (kd kX8_connection_0 4 rfl) (by decide) ?_
  obtain ⟨hq, hf⟩ := fb_some hf
  refine fl_iald C hP rfl hq (kd kX8_connection_0 5 rfl) ?_
  refine lv_iconst (v := (1 : Int32)) C.1 C.2.1 (kd kX8_connection_0 6 rfl) (by decide) ?_
  refine lv_isub C.1 C.2.1 (kd kX8_connection_0 7 rfl) ?_
  obtain ⟨r1_, σ1, hσ1, hf⟩ := fcall_some hf
  refine fl_i hS (fl_runS (As := [.int x1, .int (0 : Int32), .int ((σ 165 (244 : Int32).toNatClampNeg) - (1 : Int32))]) (rest := []) C hP (m_X8_in C.2.2.2.2.2.2.2.2 l  hσ1) (fgS tw_968 tw_969 tw_75 tw_970) hs_X8_in ⟨rfl, rfl, Nat.le_of_ble_eq_true rfl, Nat.le_of_ble_eq_true rfl⟩ rfl hl.1 rfl (Nat.le_of_ble_eq_true rfl) (kd kX8_connection_0 8 rfl)) (fun H locs hP hS => ?_)
  refine lv_if_ne (tgt := 22) C.1 C.2.1 (kd kX8_connection_0 9 rfl) (by decide) (fun q => ?_) (fun q => ?_)
  · have hf := fif_neg q hf
    refine lv_aload_n C.1 C.2.1 (kd kX8_connection_0 12 rfl) rfl (lv_at hl 0 rfl) ?_
    obtain ⟨σ2, hσ2, hf⟩ := fcallv_some hf
    refine fl_v hS (fl_runV (As := []) (rest := []) C hP rfl (Nat.le_of_ble_eq_true rfl) rfl (m_X8_tell C.2.2.2.2.2.2.2.2 l  hσ2) (fgV tw_1110 tw_1112 tw_41 tw_75 tw_1113) hd_X8_tell ⟨rfl, rfl, Nat.le_of_ble_eq_true rfl, Nat.le_of_ble_eq_true rfl⟩ rfl hl.1 rfl (Nat.le_of_ble_eq_true rfl) (kd kX8_connection_0 13 rfl)) (fun H locs hP hS => ?_)
    refine lv_iload_n C.1 C.2.1 (kd kX8_connection_0 14 rfl) rfl (lv_at hl 2 rfl) ?_
    refine lv_iconst (v := (0 : Int32)) C.1 C.2.1 (kd kX8_connection_0 15 rfl) (by decide) ?_
    refine lv_iconst (v := (3 : Int32)) C.1 C.2.1 (kd kX8_connection_0 16 rfl) (by decide) ?_
    obtain ⟨r3_, σ3, hσ3, hf⟩ := fcall_some hf
    refine fl_i hS (fl_runS (As := [.int x2, .int (0 : Int32), .int (3 : Int32)]) (rest := []) C hP (m_X8_in C.2.2.2.2.2.2.2.2 l  hσ3) (fgS tw_968 tw_969 tw_75 tw_970) hs_X8_in ⟨rfl, rfl, Nat.le_of_ble_eq_true rfl, Nat.le_of_ble_eq_true rfl⟩ rfl hl.1 rfl (Nat.le_of_ble_eq_true rfl) (kd kX8_connection_0 17 rfl)) (fun H locs hP hS => ?_)
    refine lv_if_eq (tgt := 44) C.1 C.2.1 (kd kX8_connection_0 18 rfl) (by decide) (fun q => ?_) (fun q => ?_)
    · have hf := fif_pos q hf
      refine lv_iload_n C.1 C.2.1 (kd kX8_connection_0 24 rfl) rfl (lv_at hl 2 rfl) ?_
      refine lv_iconst (v := (4 : Int32)) C.1 C.2.1 (kd kX8_connection_0 25 rfl) (by decide) ?_
      refine lv_icmp_ne (tgt := 57) C.1 C.2.1 (kd kX8_connection_0 26 rfl) (by decide) (fun q => ?_) (fun q => ?_)
      · have hf := fif_neg q hf
        refine lv_sipush (v := (-10002 : Int32)) C.1 C.2.1 (kd kX8_connection_0 31 rfl) (by decide) ?_
        exact fl_iret C hP hS hf (kd kX8_connection_0 32 rfl)
      have hf := fif_pos q hf
      refine lv_aload_n C.1 C.2.1 (kd kX8_connection_0 27 rfl) rfl (lv_at hl 0 rfl) ?_
      refine lv_iload_n C.1 C.2.1 (kd kX8_connection_0 28 rfl) rfl (lv_at hl 1 rfl) ?_
      obtain ⟨r4_, σ4, hσ4, hf⟩ := fcall_some hf
      refine fl_i hS (fl_runV (As := [.int x1]) (rest := []) C hP rfl (Nat.le_of_ble_eq_true rfl) rfl (m_X8_kindOf C.2.2.2.2.2.2.2.2 l  hσ4) (fgV tw_1159 tw_1161 tw_53 tw_75 tw_1162) hd_X8_kindOf ⟨rfl, rfl, Nat.le_of_ble_eq_true rfl, Nat.le_of_ble_eq_true rfl⟩ rfl hl.1 rfl (Nat.le_of_ble_eq_true rfl) (kd kX8_connection_0 29 rfl)) (fun H locs hP hS => ?_)
      refine lv_goto (tgt := 60) C.1 C.2.1 (kd kX8_connection_0 30 rfl) (by decide) ?_
      exact fl_iret C hP hS hf (kd kX8_connection_0 32 rfl)
    have hf := fif_neg q hf
    refine lv_aload_n C.1 C.2.1 (kd kX8_connection_0 19 rfl) rfl (lv_at hl 0 rfl) ?_
    refine lv_iload_n C.1 C.2.1 (kd kX8_connection_0 20 rfl) rfl (lv_at hl 1 rfl) ?_
    refine lv_iload_n C.1 C.2.1 (kd kX8_connection_0 21 rfl) rfl (lv_at hl 2 rfl) ?_
    obtain ⟨r5_, σ5, hσ5, hf⟩ := fcall_some hf
    refine fl_i hS (fl_runV (As := [.int x1, .int x2]) (rest := []) C hP rfl (Nat.le_of_ble_eq_true rfl) rfl (m_X8_connectionOf C.2.2.2.2.2.2.2.2 l  hσ5) (fgV tw_1155 tw_1157 tw_52 tw_75 tw_1158) hd_X8_connectionOf ⟨rfl, rfl, Nat.le_of_ble_eq_true rfl, Nat.le_of_ble_eq_true rfl⟩ rfl hl.1 rfl (Nat.le_of_ble_eq_true rfl) (kd kX8_connection_0 22 rfl)) (fun H locs hP hS => ?_)
    refine lv_goto (tgt := 60) C.1 C.2.1 (kd kX8_connection_0 23 rfl) (by decide) ?_
    exact fl_iret C hP hS hf (kd kX8_connection_0 32 rfl)
  have hf := fif_pos q hf
  refine lv_sipush (v := (-10001 : Int32)) C.1 C.2.1 (kd kX8_connection_0 10 rfl) (by decide) ?_
  exact fl_iret C hP hS hf (kd kX8_connection_0 11 rfl)
def f_X8_tide (x1 : Int32) (σ : fS) : Option (Int32 × fS) := fcall (f_X8_in x1 (0 : Int32) (48 : Int32) σ) (fun r1_ σ1 => (if r1_ = 0 then some ((-10001 : Int32), σ1) else fb ((0 : Int32) + x1) 277 (some ((σ1 165 ((0 : Int32) + x1).toNatClampNeg), σ1))))
set_option maxRecDepth 100000 in
set_option maxHeartbeats 4000000 in
theorem m_X8_tide {Γ : fGm} (hI : fI Γ) (l : Launch) {x1 : Int32} {σ : fS} {r : Int32} {σ' : fS} (hf : f_X8_tide x1 σ = some (r, σ')) : Met l yX8_tide (.code yX8_tide cX8_tide 2 (some .int) :: lw_g) ({ frames := 1, cells := 0, slots := 0, locals := 22 } : Room) (fPre Γ [.ref (Γ.1 164), .int x1] σ) (fQi Γ r σ') 0 0 (fAd Γ) := by
  refine fl_enter (own := RX8) hI (by decide +kernel) rfl (Nat.le_of_ble_eq_true rfl) ?_
  intro p e s m args below meth c ls C hl hP hS
  have hl : lv_has ls 2 [(0, .ref (Γ.1 164)), (1, .int x1)] := hl
  obtain ⟨H, hH⟩ : ∃ H, H = s.heap := ⟨_, rfl⟩
  obtain ⟨locs, hL⟩ : ∃ L : List Loc, L = [] := ⟨_, rfl⟩
  have hP : fH Γ σ H := by rw [hH]; exact hP
  have hS : va_S (fAd Γ) s.heap H locs := by rw [hH, hL]; exact hS
  suffices hw : W p l e ({ frames := 1, cells := 0, slots := 0, locals := 22 } : Room) s m args below meth c H locs 0 0 (MQ below (fQi Γ r σ') args s 0 0 (fAd Γ)) (F0 m 0 ls []) by rw [hH, hL] at hw; exact hw
  unfold f_X8_tide at hf
  refine lv_iload_n C.1 C.2.1 (kd kX8_tide_0 0 rfl) rfl (lv_at hl 1 rfl) ?_
  refine lv_iconst (v := (0 : Int32)) C.1 C.2.1 (kd kX8_tide_0 1 rfl) (by decide) ?_
  refine lv_bipush (v := (48 : Int32)) C.1 C.2.1 (kd kX8_tide_0 2 rfl) (by decide) ?_
  obtain ⟨r1_, σ1, hσ1, hf⟩ := fcall_some hf
  refine fl_i hS (fl_runS (As := [.int x1, .int (0 : Int32), .int (48 : Int32)]) (rest := []) C hP (m_X8_in C.2.2.2.2.2.2.2.2 l  hσ1) (fgS tw_968 tw_969 tw_75 tw_970) hs_X8_in ⟨rfl, rfl, Nat.le_of_ble_eq_true rfl, Nat.le_of_ble_eq_true rfl⟩ rfl hl.1 rfl (Nat.le_of_ble_eq_true rfl) (kd kX8_tide_0 3 rfl)) (fun H locs hP hS => ?_)
  refine lv_if_eq (tgt := 21) C.1 C.2.1 (kd kX8_tide_0 4 rfl) (by decide) (fun q => ?_) (fun q => ?_)
  · have hf := fif_pos q hf
    refine lv_sipush (v := (-10001 : Int32)) C.1 C.2.1 (kd kX8_tide_0 12 rfl) (by decide) ?_
    exact fl_iret C hP hS hf (kd kX8_tide_0 13 rfl)
  have hf := fif_neg q hf
  refine lv_aload_n C.1 C.2.1 (kd kX8_tide_0 5 rfl) rfl (lv_at hl 0 rfl) ?_
  refine fl_get (j := 0) (v := .ref (Γ.1 165)) C hP rfl (Nat.le_of_ble_eq_true rfl) rfl inX8 (Nat.le_of_ble_eq_true rfl) tw_862 rfl (kd kX8_tide_0 6 rfl) ?_
  refine lv_iconst (v := (0 : Int32)) C.1 C.2.1 (kd kX8_tide_0 7 rfl) (by decide) ?_
  refine lv_iload_n C.1 C.2.1 (kd kX8_tide_0 8 rfl) rfl (lv_at hl 1 rfl) ?_
  refine lv_iadd C.1 C.2.1 (kd kX8_tide_0 9 rfl) ?_
  obtain ⟨hq, hf⟩ := fb_some hf
  refine fl_iald C hP rfl hq (kd kX8_tide_0 10 rfl) ?_
  refine lv_goto (tgt := 24) C.1 C.2.1 (kd kX8_tide_0 11 rfl) (by decide) ?_
  exact fl_iret C hP hS hf (kd kX8_tide_0 13 rfl)
def f_X8_wind (x1 : Int32) (σ : fS) : Option (Int32 × fS) := fcall (f_X8_in x1 (0 : Int32) (47 : Int32) σ) (fun r1_ σ1 => (if r1_ = 0 then some ((-10001 : Int32), σ1) else fb ((49 : Int32) + x1) 277 (some ((σ1 165 ((49 : Int32) + x1).toNatClampNeg), σ1))))
set_option maxRecDepth 100000 in
set_option maxHeartbeats 4000000 in
theorem m_X8_wind {Γ : fGm} (hI : fI Γ) (l : Launch) {x1 : Int32} {σ : fS} {r : Int32} {σ' : fS} (hf : f_X8_wind x1 σ = some (r, σ')) : Met l yX8_wind (.code yX8_wind cX8_wind 2 (some .int) :: lw_g) ({ frames := 1, cells := 0, slots := 0, locals := 22 } : Room) (fPre Γ [.ref (Γ.1 164), .int x1] σ) (fQi Γ r σ') 0 0 (fAd Γ) := by
  refine fl_enter (own := RX8) hI (by decide +kernel) rfl (Nat.le_of_ble_eq_true rfl) ?_
  intro p e s m args below meth c ls C hl hP hS
  have hl : lv_has ls 2 [(0, .ref (Γ.1 164)), (1, .int x1)] := hl
  obtain ⟨H, hH⟩ : ∃ H, H = s.heap := ⟨_, rfl⟩
  obtain ⟨locs, hL⟩ : ∃ L : List Loc, L = [] := ⟨_, rfl⟩
  have hP : fH Γ σ H := by rw [hH]; exact hP
  have hS : va_S (fAd Γ) s.heap H locs := by rw [hH, hL]; exact hS
  suffices hw : W p l e ({ frames := 1, cells := 0, slots := 0, locals := 22 } : Room) s m args below meth c H locs 0 0 (MQ below (fQi Γ r σ') args s 0 0 (fAd Γ)) (F0 m 0 ls []) by rw [hH, hL] at hw; exact hw
  unfold f_X8_wind at hf
  refine lv_iload_n C.1 C.2.1 (kd kX8_wind_0 0 rfl) rfl (lv_at hl 1 rfl) ?_
  refine lv_iconst (v := (0 : Int32)) C.1 C.2.1 (kd kX8_wind_0 1 rfl) (by decide) ?_
  refine lv_bipush (v := (47 : Int32)) C.1 C.2.1 (kd kX8_wind_0 2 rfl) (by decide) ?_
  obtain ⟨r1_, σ1, hσ1, hf⟩ := fcall_some hf
  refine fl_i hS (fl_runS (As := [.int x1, .int (0 : Int32), .int (47 : Int32)]) (rest := []) C hP (m_X8_in C.2.2.2.2.2.2.2.2 l  hσ1) (fgS tw_968 tw_969 tw_75 tw_970) hs_X8_in ⟨rfl, rfl, Nat.le_of_ble_eq_true rfl, Nat.le_of_ble_eq_true rfl⟩ rfl hl.1 rfl (Nat.le_of_ble_eq_true rfl) (kd kX8_wind_0 3 rfl)) (fun H locs hP hS => ?_)
  refine lv_if_eq (tgt := 22) C.1 C.2.1 (kd kX8_wind_0 4 rfl) (by decide) (fun q => ?_) (fun q => ?_)
  · have hf := fif_pos q hf
    refine lv_sipush (v := (-10001 : Int32)) C.1 C.2.1 (kd kX8_wind_0 12 rfl) (by decide) ?_
    exact fl_iret C hP hS hf (kd kX8_wind_0 13 rfl)
  have hf := fif_neg q hf
  refine lv_aload_n C.1 C.2.1 (kd kX8_wind_0 5 rfl) rfl (lv_at hl 0 rfl) ?_
  refine fl_get (j := 0) (v := .ref (Γ.1 165)) C hP rfl (Nat.le_of_ble_eq_true rfl) rfl inX8 (Nat.le_of_ble_eq_true rfl) tw_862 rfl (kd kX8_wind_0 6 rfl) ?_
  refine lv_bipush (v := (49 : Int32)) C.1 C.2.1 (kd kX8_wind_0 7 rfl) (by decide) ?_
  refine lv_iload_n C.1 C.2.1 (kd kX8_wind_0 8 rfl) rfl (lv_at hl 1 rfl) ?_
  refine lv_iadd C.1 C.2.1 (kd kX8_wind_0 9 rfl) ?_
  obtain ⟨hq, hf⟩ := fb_some hf
  refine fl_iald C hP rfl hq (kd kX8_wind_0 10 rfl) ?_
  refine lv_goto (tgt := 25) C.1 C.2.1 (kd kX8_wind_0 11 rfl) (by decide) ?_
  exact fl_iret C hP hS hf (kd kX8_wind_0 13 rfl)
def f_X8_height (x1 : Int32) (σ : fS) : Option (Int32 × fS) := fcall (f_X8_in x1 (0 : Int32) (2879 : Int32) σ) (fun r1_ σ1 => (if r1_ = 0 then some ((-10002 : Int32), σ1) else fcall (f_X8_heightAt x1 σ1) (fun r2_ σ2 => some (r2_, σ2))))
set_option maxRecDepth 100000 in
set_option maxHeartbeats 4000000 in
theorem m_X8_height {Γ : fGm} (hI : fI Γ) (l : Launch) {x1 : Int32} {σ : fS} {r : Int32} {σ' : fS} (hf : f_X8_height x1 σ = some (r, σ')) : Met l yX8_height (.code yX8_height cX8_height 2 (some .int) :: lw_g) ({ frames := 2, cells := 0, slots := 0, locals := 45 } : Room) (fPre Γ [.ref (Γ.1 164), .int x1] σ) (fQi Γ r σ') 0 0 (fAd Γ) := by
  refine fl_enter (own := RX8) hI (by decide +kernel) rfl (Nat.le_of_ble_eq_true rfl) ?_
  intro p e s m args below meth c ls C hl hP hS
  have hl : lv_has ls 2 [(0, .ref (Γ.1 164)), (1, .int x1)] := hl
  obtain ⟨H, hH⟩ : ∃ H, H = s.heap := ⟨_, rfl⟩
  obtain ⟨locs, hL⟩ : ∃ L : List Loc, L = [] := ⟨_, rfl⟩
  have hP : fH Γ σ H := by rw [hH]; exact hP
  have hS : va_S (fAd Γ) s.heap H locs := by rw [hH, hL]; exact hS
  suffices hw : W p l e ({ frames := 2, cells := 0, slots := 0, locals := 45 } : Room) s m args below meth c H locs 0 0 (MQ below (fQi Γ r σ') args s 0 0 (fAd Γ)) (F0 m 0 ls []) by rw [hH, hL] at hw; exact hw
  unfold f_X8_height at hf
  refine lv_iload_n C.1 C.2.1 (kd kX8_height_0 0 rfl) rfl (lv_at hl 1 rfl) ?_
  refine lv_iconst (v := (0 : Int32)) C.1 C.2.1 (kd kX8_height_0 1 rfl) (by decide) ?_
  refine lv_sipush (v := (2879 : Int32)) C.1 C.2.1 (kd kX8_height_0 2 rfl) (by decide) ?_
  obtain ⟨r1_, σ1, hσ1, hf⟩ := fcall_some hf
  refine fl_i hS (fl_runS (As := [.int x1, .int (0 : Int32), .int (2879 : Int32)]) (rest := []) C hP (m_X8_in C.2.2.2.2.2.2.2.2 l  hσ1) (fgS tw_968 tw_969 tw_75 tw_970) hs_X8_in ⟨rfl, rfl, Nat.le_of_ble_eq_true rfl, Nat.le_of_ble_eq_true rfl⟩ rfl hl.1 rfl (Nat.le_of_ble_eq_true rfl) (kd kX8_height_0 3 rfl)) (fun H locs hP hS => ?_)
  refine lv_if_eq (tgt := 19) C.1 C.2.1 (kd kX8_height_0 4 rfl) (by decide) (fun q => ?_) (fun q => ?_)
  · have hf := fif_pos q hf
    refine lv_sipush (v := (-10002 : Int32)) C.1 C.2.1 (kd kX8_height_0 9 rfl) (by decide) ?_
    exact fl_iret C hP hS hf (kd kX8_height_0 10 rfl)
  have hf := fif_neg q hf
  refine lv_aload_n C.1 C.2.1 (kd kX8_height_0 5 rfl) rfl (lv_at hl 0 rfl) ?_
  refine lv_iload_n C.1 C.2.1 (kd kX8_height_0 6 rfl) rfl (lv_at hl 1 rfl) ?_
  obtain ⟨r2_, σ2, hσ2, hf⟩ := fcall_some hf
  refine fl_i hS (fl_runV (As := [.int x1]) (rest := []) C hP rfl (Nat.le_of_ble_eq_true rfl) rfl (m_X8_heightAt C.2.2.2.2.2.2.2.2 l  hσ2) (fgV tw_1138 tw_1140 tw_48 tw_75 tw_1141) hd_X8_heightAt ⟨rfl, rfl, Nat.le_of_ble_eq_true rfl, Nat.le_of_ble_eq_true rfl⟩ rfl hl.1 rfl (Nat.le_of_ble_eq_true rfl) (kd kX8_height_0 7 rfl)) (fun H locs hP hS => ?_)
  refine lv_goto (tgt := 22) C.1 C.2.1 (kd kX8_height_0 8 rfl) (by decide) ?_
  exact fl_iret C hP hS hf (kd kX8_height_0 10 rfl)
def f_X8_heightBits (x1 : Int32) (σ : fS) : Option (Int32 × fS) := fcall (f_X8_in x1 (0 : Int32) (2879 : Int32) σ) (fun r1_ σ1 => (if r1_ = 0 then some ((1 : Int32), σ1) else fcall (f_X8_floatHeight x1 σ1) (fun r2_ σ2 => fcall (f_Jxf58ca_floatToIntBits_5c35a r2_ σ2) (fun r3_ σ3 => some (r3_, σ3)))))
set_option maxRecDepth 100000 in
set_option maxHeartbeats 4000000 in
theorem m_X8_heightBits {Γ : fGm} (hI : fI Γ) (l : Launch) {x1 : Int32} {σ : fS} {r : Int32} {σ' : fS} (hf : f_X8_heightBits x1 σ = some (r, σ')) : Met l yX8_heightBits (.code yX8_heightBits cX8_heightBits 2 (some .int) :: lw_g) ({ frames := 2, cells := 0, slots := 0, locals := 60 } : Room) (fPre Γ [.ref (Γ.1 164), .int x1] σ) (fQi Γ r σ') 0 0 (fAd Γ) := by
  refine fl_enter (own := RX8) hI (by decide +kernel) rfl (Nat.le_of_ble_eq_true rfl) ?_
  intro p e s m args below meth c ls C hl hP hS
  have hl : lv_has ls 2 [(0, .ref (Γ.1 164)), (1, .int x1)] := hl
  obtain ⟨H, hH⟩ : ∃ H, H = s.heap := ⟨_, rfl⟩
  obtain ⟨locs, hL⟩ : ∃ L : List Loc, L = [] := ⟨_, rfl⟩
  have hP : fH Γ σ H := by rw [hH]; exact hP
  have hS : va_S (fAd Γ) s.heap H locs := by rw [hH, hL]; exact hS
  suffices hw : W p l e ({ frames := 2, cells := 0, slots := 0, locals := 60 } : Room) s m args below meth c H locs 0 0 (MQ below (fQi Γ r σ') args s 0 0 (fAd Γ)) (F0 m 0 ls []) by rw [hH, hL] at hw; exact hw
  unfold f_X8_heightBits at hf
  refine lv_iload_n C.1 C.2.1 (kd kX8_heightBits_0 0 rfl) rfl (lv_at hl 1 rfl) ?_
  refine lv_iconst (v := (0 : Int32)) C.1 C.2.1 (kd kX8_heightBits_0 1 rfl) (by decide) ?_
  refine lv_sipush (v := (2879 : Int32)) C.1 C.2.1 (kd kX8_heightBits_0 2 rfl) (by decide) ?_
  obtain ⟨r1_, σ1, hσ1, hf⟩ := fcall_some hf
  refine fl_i hS (fl_runS (As := [.int x1, .int (0 : Int32), .int (2879 : Int32)]) (rest := []) C hP (m_X8_in C.2.2.2.2.2.2.2.2 l  hσ1) (fgS tw_968 tw_969 tw_75 tw_970) hs_X8_in ⟨rfl, rfl, Nat.le_of_ble_eq_true rfl, Nat.le_of_ble_eq_true rfl⟩ rfl hl.1 rfl (Nat.le_of_ble_eq_true rfl) (kd kX8_heightBits_0 3 rfl)) (fun H locs hP hS => ?_)
  refine lv_if_eq (tgt := 22) C.1 C.2.1 (kd kX8_heightBits_0 4 rfl) (by decide) (fun q => ?_) (fun q => ?_)
  · have hf := fif_pos q hf
    refine lv_iconst (v := (1 : Int32)) C.1 C.2.1 (kd kX8_heightBits_0 10 rfl) (by decide) ?_
    exact fl_iret C hP hS hf (kd kX8_heightBits_0 11 rfl)
  have hf := fif_neg q hf
  refine lv_aload_n C.1 C.2.1 (kd kX8_heightBits_0 5 rfl) rfl (lv_at hl 0 rfl) ?_
  refine lv_iload_n C.1 C.2.1 (kd kX8_heightBits_0 6 rfl) rfl (lv_at hl 1 rfl) ?_
  obtain ⟨r2_, σ2, hσ2, hf⟩ := fcall_some hf
  refine fl_f hS (fl_runV (As := [.int x1]) (rest := []) C hP rfl (Nat.le_of_ble_eq_true rfl) rfl (m_X8_floatHeight C.2.2.2.2.2.2.2.2 l  hσ2) (fgV tw_1142 tw_1144 tw_49 tw_75 tw_1145) hd_X8_floatHeight ⟨rfl, rfl, Nat.le_of_ble_eq_true rfl, Nat.le_of_ble_eq_true rfl⟩ rfl hl.1 rfl (Nat.le_of_ble_eq_true rfl) (kd kX8_heightBits_0 7 rfl)) (fun H locs hP hS => ?_)
  obtain ⟨r3_, σ3, hσ3, hf⟩ := fcall_some hf
  refine fl_i hS (fl_runS (As := [.float r2_]) (rest := []) C hP (m_Jxf58ca_floatToIntBits_5c35a C.2.2.2.2.2.2.2.2 l  hσ3) (fgS tw_1223 tw_1224 tw_78 tw_1225) hs_Jxf58ca_floatToIntBits_5c35a ⟨rfl, rfl, Nat.le_of_ble_eq_true rfl, Nat.le_of_ble_eq_true rfl⟩ rfl hl.1 rfl (Nat.le_of_ble_eq_true rfl) (kd kX8_heightBits_0 8 rfl)) (fun H locs hP hS => ?_)
  refine lv_goto (tgt := 23) C.1 C.2.1 (kd kX8_heightBits_0 9 rfl) (by decide) ?_
  exact fl_iret C hP hS hf (kd kX8_heightBits_0 11 rfl)
def f_X8_water (x1 : Int32) (x2 : Int32) (σ : fS) : Option (Int32 × fS) := fcall (f_X8_isBerth x1 σ) (fun r1_ σ1 => (if r1_ = 0 then some ((-10001 : Int32), σ1) else fcall (f_X8_in x2 (0 : Int32) (2879 : Int32) σ1) (fun r2_ σ2 => (if r2_ = 0 then some ((-10002 : Int32), σ2) else fcall (f_X8_waterAt x1 x2 σ2) (fun r3_ σ3 => some (r3_, σ3))))))
set_option maxRecDepth 100000 in
set_option maxHeartbeats 4000000 in
theorem m_X8_water {Γ : fGm} (hI : fI Γ) (l : Launch) {x1 : Int32} {x2 : Int32} {σ : fS} {r : Int32} {σ' : fS} (hf : f_X8_water x1 x2 σ = some (r, σ')) : Met l yX8_water (.code yX8_water cX8_water 3 (some .int) :: lw_g) ({ frames := 3, cells := 0, slots := 0, locals := 67 } : Room) (fPre Γ [.ref (Γ.1 164), .int x1, .int x2] σ) (fQi Γ r σ') 0 0 (fAd Γ) := by
  refine fl_enter (own := RX8) hI (by decide +kernel) rfl (Nat.le_of_ble_eq_true rfl) ?_
  intro p e s m args below meth c ls C hl hP hS
  have hl : lv_has ls 3 [(0, .ref (Γ.1 164)), (1, .int x1), (2, .int x2)] := hl
  obtain ⟨H, hH⟩ : ∃ H, H = s.heap := ⟨_, rfl⟩
  obtain ⟨locs, hL⟩ : ∃ L : List Loc, L = [] := ⟨_, rfl⟩
  have hP : fH Γ σ H := by rw [hH]; exact hP
  have hS : va_S (fAd Γ) s.heap H locs := by rw [hH, hL]; exact hS
  suffices hw : W p l e ({ frames := 3, cells := 0, slots := 0, locals := 67 } : Room) s m args below meth c H locs 0 0 (MQ below (fQi Γ r σ') args s 0 0 (fAd Γ)) (F0 m 0 ls []) by rw [hH, hL] at hw; exact hw
  unfold f_X8_water at hf
  refine lv_aload_n C.1 C.2.1 (kd kX8_water_0 0 rfl) rfl (lv_at hl 0 rfl) ?_
  refine lv_iload_n C.1 C.2.1 (kd kX8_water_0 1 rfl) rfl (lv_at hl 1 rfl) ?_
  obtain ⟨r1_, σ1, hσ1, hf⟩ := fcall_some hf
  refine fl_i hS (fl_runV (As := [.int x1]) (rest := []) C hP rfl (Nat.le_of_ble_eq_true rfl) rfl (m_X8_isBerth C.2.2.2.2.2.2.2.2 l  hσ1) (fgV tw_998 tw_1000 tw_26 tw_75 tw_1001) hd_X8_isBerth ⟨rfl, rfl, Nat.le_of_ble_eq_true rfl, Nat.le_of_ble_eq_true rfl⟩ rfl hl.1 rfl (Nat.le_of_ble_eq_true rfl) (kd kX8_water_0 2 rfl)) (fun H locs hP hS => ?_)
  refine lv_if_ne (tgt := 12) C.1 C.2.1 (kd kX8_water_0 3 rfl) (by decide) (fun q => ?_) (fun q => ?_)
  · have hf := fif_neg q hf
    refine lv_iload_n C.1 C.2.1 (kd kX8_water_0 6 rfl) rfl (lv_at hl 2 rfl) ?_
    refine lv_iconst (v := (0 : Int32)) C.1 C.2.1 (kd kX8_water_0 7 rfl) (by decide) ?_
    refine lv_sipush (v := (2879 : Int32)) C.1 C.2.1 (kd kX8_water_0 8 rfl) (by decide) ?_
    obtain ⟨r2_, σ2, hσ2, hf⟩ := fcall_some hf
    refine fl_i hS (fl_runS (As := [.int x2, .int (0 : Int32), .int (2879 : Int32)]) (rest := []) C hP (m_X8_in C.2.2.2.2.2.2.2.2 l  hσ2) (fgS tw_968 tw_969 tw_75 tw_970) hs_X8_in ⟨rfl, rfl, Nat.le_of_ble_eq_true rfl, Nat.le_of_ble_eq_true rfl⟩ rfl hl.1 rfl (Nat.le_of_ble_eq_true rfl) (kd kX8_water_0 9 rfl)) (fun H locs hP hS => ?_)
    refine lv_if_eq (tgt := 32) C.1 C.2.1 (kd kX8_water_0 10 rfl) (by decide) (fun q => ?_) (fun q => ?_)
    · have hf := fif_pos q hf
      refine lv_sipush (v := (-10002 : Int32)) C.1 C.2.1 (kd kX8_water_0 16 rfl) (by decide) ?_
      exact fl_iret C hP hS hf (kd kX8_water_0 17 rfl)
    have hf := fif_neg q hf
    refine lv_aload_n C.1 C.2.1 (kd kX8_water_0 11 rfl) rfl (lv_at hl 0 rfl) ?_
    refine lv_iload_n C.1 C.2.1 (kd kX8_water_0 12 rfl) rfl (lv_at hl 1 rfl) ?_
    refine lv_iload_n C.1 C.2.1 (kd kX8_water_0 13 rfl) rfl (lv_at hl 2 rfl) ?_
    obtain ⟨r3_, σ3, hσ3, hf⟩ := fcall_some hf
    refine fl_i hS (fl_runV (As := [.int x1, .int x2]) (rest := []) C hP rfl (Nat.le_of_ble_eq_true rfl) rfl (m_X8_waterAt C.2.2.2.2.2.2.2.2 l  hσ3) (fgV tw_1134 tw_1136 tw_47 tw_75 tw_1137) hd_X8_waterAt ⟨rfl, rfl, Nat.le_of_ble_eq_true rfl, Nat.le_of_ble_eq_true rfl⟩ rfl hl.1 rfl (Nat.le_of_ble_eq_true rfl) (kd kX8_water_0 14 rfl)) (fun H locs hP hS => ?_)
    refine lv_goto (tgt := 35) C.1 C.2.1 (kd kX8_water_0 15 rfl) (by decide) ?_
    exact fl_iret C hP hS hf (kd kX8_water_0 17 rfl)
  have hf := fif_pos q hf
  refine lv_sipush (v := (-10001 : Int32)) C.1 C.2.1 (kd kX8_water_0 4 rfl) (by decide) ?_
  exact fl_iret C hP hS hf (kd kX8_water_0 5 rfl)
def f_X8_firstTime_b38 : Nat → Int32 → Int32 → Int32 → fS → Option (Int32 × fS)
  | 0, _, _, _, _ => none
  | n_ + 1, v1, v2, v4, σ => (if (2879 : Int32) < v4 then some ((-10004 : Int32), σ) else fcall (f_X8_isDeep v2 v1 v4 σ) (fun r1_ σ1 => (if r1_ = 0 then (fun v1 v2 v4 σ => f_X8_firstTime_b38 n_ v1 v2 v4 σ) (v1) (v2) ((v4 + (1 : Int32))) σ1 else some (v4, σ1))))
set_option maxRecDepth 100000 in
set_option maxHeartbeats 4000000 in
theorem w_X8_firstTime_b38 {r : Int32} {σ' : fS}  (C : fC Γ p s m args meth c cX8_firstTime (some .int) RX8 5) : ∀ (n_ : Nat) (v1 : Int32) (v2 : Int32) (v4 : Int32) (σ : fS) (H : Heap) (locs : List Loc) (ls : Array Slot), f_X8_firstTime_b38 n_ v1 v2 v4 σ = some (r, σ') → fH Γ σ H → va_S (fAd Γ) s.heap H locs → lv_has ls 5 [(0, .ref (Γ.1 164)), (1, .int v1), (2, .int v2), (4, .int v4)] → W p l e ({ frames := 4, cells := 0, slots := 0, locals := 90 } : Room) s m args below meth c H locs 0 0 (MQ below (fQi Γ r σ') args s 0 0 (fAd Γ)) (F0 m 38 ls []) := by
  intro n_
  induction n_ with
  | zero =>
    intro v1 v2 v4 σ H locs ls hf
    cases hf
  | succ n_ ih =>
    intro v1 v2 v4 σ H locs ls hf hP hS hl
    have hf : (if (2879 : Int32) < v4 then some ((-10004 : Int32), σ) else fcall (f_X8_isDeep v2 v1 v4 σ) (fun r1_ σ1 => (if r1_ = 0 then (fun v1 v2 v4 σ => f_X8_firstTime_b38 n_ v1 v2 v4 σ) (v1) (v2) ((v4 + (1 : Int32))) σ1 else some (v4, σ1)))) = some (r, σ') := hf
    have hK38 := ih
    refine lv_iload C.1 C.2.1 (kd kX8_firstTime_0 19 rfl) (lv_at hl 3 rfl) ?_
    refine lv_sipush (v := (2879 : Int32)) C.1 C.2.1 (kd kX8_firstTime_0 20 rfl) (by decide) ?_
    refine lv_icmp_gt (tgt := 66) C.1 C.2.1 (kd kX8_firstTime_0 21 rfl) (by decide) (fun q => ?_) (fun q => ?_)
    · have hf := fif_pos q hf
      refine lv_sipush (v := (-10004 : Int32)) C.1 C.2.1 (kd kX8_firstTime_0 32 rfl) (by decide) ?_
      exact fl_iret C hP hS hf (kd kX8_firstTime_0 33 rfl)
    have hf := fif_neg q hf
    refine lv_aload_n C.1 C.2.1 (kd kX8_firstTime_0 22 rfl) rfl (lv_at hl 0 rfl) ?_
    refine lv_iload_n C.1 C.2.1 (kd kX8_firstTime_0 23 rfl) rfl (lv_at hl 2 rfl) ?_
    refine lv_iload_n C.1 C.2.1 (kd kX8_firstTime_0 24 rfl) rfl (lv_at hl 1 rfl) ?_
    refine lv_iload C.1 C.2.1 (kd kX8_firstTime_0 25 rfl) (lv_at hl 3 rfl) ?_
    obtain ⟨r1_, σ1, hσ1, hf⟩ := fcall_some hf
    refine fl_i hS (fl_runV (As := [.int v2, .int v1, .int v4]) (rest := []) C hP rfl (Nat.le_of_ble_eq_true rfl) rfl (m_X8_isDeep C.2.2.2.2.2.2.2.2 l  hσ1) (fgV tw_1130 tw_1132 tw_46 tw_75 tw_1133) hd_X8_isDeep ⟨rfl, rfl, Nat.le_of_ble_eq_true rfl, Nat.le_of_ble_eq_true rfl⟩ rfl hl.1 rfl (Nat.le_of_ble_eq_true rfl) (kd kX8_firstTime_0 26 rfl)) (fun H locs hP hS => ?_)
    refine lv_if_eq (tgt := 60) C.1 C.2.1 (kd kX8_firstTime_0 27 rfl) (by decide) (fun q => ?_) (fun q => ?_)
    · have hf := fif_pos q hf
      refine lv_iinc (v := (v4 + (1 : Int32))) (lv' := [(4, .int (v4 + (1 : Int32))), (0, .ref (Γ.1 164)), (1, .int v1), (2, .int v2)]) C.1 C.2.1 (kd kX8_firstTime_0 30 rfl) hl (k := 3) rfl rfl (Nat.le_of_ble_eq_true rfl) rfl (fun ls hl => ?_)
      refine lv_goto (tgt := 38) C.1 C.2.1 (kd kX8_firstTime_0 31 rfl) (by decide) ?_
      exact hK38 (v1) (v2) ((v4 + (1 : Int32))) σ1 H locs ls hf hP hS (lv_sub hl [1, 2, 3, 0] rfl)
    have hf := fif_neg q hf
    refine lv_iload C.1 C.2.1 (kd kX8_firstTime_0 28 rfl) (lv_at hl 3 rfl) ?_
    exact fl_iret C hP hS hf (kd kX8_firstTime_0 29 rfl)
def f_X8_firstTime (x1 : Int32) (x2 : Int32) (x3 : Int32) (σ : fS) : Option (Int32 × fS) := fcall (f_X8_isBerth x1 σ) (fun r1_ σ1 => (if r1_ = 0 then some ((-10001 : Int32), σ1) else fcall (f_X8_isShip x2 σ1) (fun r2_ σ2 => (if r2_ = 0 then some ((-10001 : Int32), σ2) else fcall (f_X8_in x3 (0 : Int32) (2879 : Int32) σ2) (fun r3_ σ3 => (if r3_ = 0 then some ((-10002 : Int32), σ3) else f_X8_firstTime_b38 fN (x1) (x2) (x3) σ3))))))
set_option maxRecDepth 100000 in
set_option maxHeartbeats 4000000 in
theorem m_X8_firstTime {Γ : fGm} (hI : fI Γ) (l : Launch) {x1 : Int32} {x2 : Int32} {x3 : Int32} {σ : fS} {r : Int32} {σ' : fS} (hf : f_X8_firstTime x1 x2 x3 σ = some (r, σ')) : Met l yX8_firstTime (.code yX8_firstTime cX8_firstTime 5 (some .int) :: lw_g) ({ frames := 4, cells := 0, slots := 0, locals := 90 } : Room) (fPre Γ [.ref (Γ.1 164), .int x1, .int x2, .int x3] σ) (fQi Γ r σ') 0 0 (fAd Γ) := by
  refine fl_enter (own := RX8) hI (by decide +kernel) rfl (Nat.le_of_ble_eq_true rfl) ?_
  intro p e s m args below meth c ls C hl hP hS
  have hl : lv_has ls 5 [(0, .ref (Γ.1 164)), (1, .int x1), (2, .int x2), (3, .int x3)] := hl
  obtain ⟨H, hH⟩ : ∃ H, H = s.heap := ⟨_, rfl⟩
  obtain ⟨locs, hL⟩ : ∃ L : List Loc, L = [] := ⟨_, rfl⟩
  have hP : fH Γ σ H := by rw [hH]; exact hP
  have hS : va_S (fAd Γ) s.heap H locs := by rw [hH, hL]; exact hS
  suffices hw : W p l e ({ frames := 4, cells := 0, slots := 0, locals := 90 } : Room) s m args below meth c H locs 0 0 (MQ below (fQi Γ r σ') args s 0 0 (fAd Γ)) (F0 m 0 ls []) by rw [hH, hL] at hw; exact hw
  unfold f_X8_firstTime at hf
  refine lv_aload_n C.1 C.2.1 (kd kX8_firstTime_0 0 rfl) rfl (lv_at hl 0 rfl) ?_
  refine lv_iload_n C.1 C.2.1 (kd kX8_firstTime_0 1 rfl) rfl (lv_at hl 1 rfl) ?_
  obtain ⟨r1_, σ1, hσ1, hf⟩ := fcall_some hf
  refine fl_i hS (fl_runV (As := [.int x1]) (rest := []) C hP rfl (Nat.le_of_ble_eq_true rfl) rfl (m_X8_isBerth C.2.2.2.2.2.2.2.2 l  hσ1) (fgV tw_998 tw_1000 tw_26 tw_75 tw_1001) hd_X8_isBerth ⟨rfl, rfl, Nat.le_of_ble_eq_true rfl, Nat.le_of_ble_eq_true rfl⟩ rfl hl.1 rfl (Nat.le_of_ble_eq_true rfl) (kd kX8_firstTime_0 2 rfl)) (fun H locs hP hS => ?_)
  refine lv_if_eq (tgt := 16) C.1 C.2.1 (kd kX8_firstTime_0 3 rfl) (by decide) (fun q => ?_) (fun q => ?_)
  · have hf := fif_pos q hf
    refine lv_sipush (v := (-10001 : Int32)) C.1 C.2.1 (kd kX8_firstTime_0 8 rfl) (by decide) ?_
    exact fl_iret C hP hS hf (kd kX8_firstTime_0 9 rfl)
  have hf := fif_neg q hf
  refine lv_aload_n C.1 C.2.1 (kd kX8_firstTime_0 4 rfl) rfl (lv_at hl 0 rfl) ?_
  refine lv_iload_n C.1 C.2.1 (kd kX8_firstTime_0 5 rfl) rfl (lv_at hl 2 rfl) ?_
  obtain ⟨r2_, σ2, hσ2, hf⟩ := fcall_some hf
  refine fl_i hS (fl_runV (As := [.int x2]) (rest := []) C hP rfl (Nat.le_of_ble_eq_true rfl) rfl (m_X8_isShip C.2.2.2.2.2.2.2.2 l  hσ2) (fgV tw_994 tw_996 tw_25 tw_75 tw_997) hd_X8_isShip ⟨rfl, rfl, Nat.le_of_ble_eq_true rfl, Nat.le_of_ble_eq_true rfl⟩ rfl hl.1 rfl (Nat.le_of_ble_eq_true rfl) (kd kX8_firstTime_0 6 rfl)) (fun H locs hP hS => ?_)
  refine lv_if_ne (tgt := 20) C.1 C.2.1 (kd kX8_firstTime_0 7 rfl) (by decide) (fun q => ?_) (fun q => ?_)
  · have hf := fif_neg q hf
    refine lv_iload_n C.1 C.2.1 (kd kX8_firstTime_0 10 rfl) rfl (lv_at hl 3 rfl) ?_
    refine lv_iconst (v := (0 : Int32)) C.1 C.2.1 (kd kX8_firstTime_0 11 rfl) (by decide) ?_
    refine lv_sipush (v := (2879 : Int32)) C.1 C.2.1 (kd kX8_firstTime_0 12 rfl) (by decide) ?_
    obtain ⟨r3_, σ3, hσ3, hf⟩ := fcall_some hf
    refine fl_i hS (fl_runS (As := [.int x3, .int (0 : Int32), .int (2879 : Int32)]) (rest := []) C hP (m_X8_in C.2.2.2.2.2.2.2.2 l  hσ3) (fgS tw_968 tw_969 tw_75 tw_970) hs_X8_in ⟨rfl, rfl, Nat.le_of_ble_eq_true rfl, Nat.le_of_ble_eq_true rfl⟩ rfl hl.1 rfl (Nat.le_of_ble_eq_true rfl) (kd kX8_firstTime_0 13 rfl)) (fun H locs hP hS => ?_)
    refine lv_if_ne (tgt := 35) C.1 C.2.1 (kd kX8_firstTime_0 14 rfl) (by decide) (fun q => ?_) (fun q => ?_)
    · have hf := fif_neg q hf
      refine lv_iload_n C.1 C.2.1 (kd kX8_firstTime_0 17 rfl) rfl (lv_at hl 3 rfl) ?_
      refine lv_istore (lv' := [(4, .int x3), (0, .ref (Γ.1 164)), (1, .int x1), (2, .int x2), (3, .int x3)]) C.1 C.2.1 (kd kX8_firstTime_0 18 rfl) hl (Nat.le_of_ble_eq_true rfl) rfl (fun ls hl => ?_)
      exact w_X8_firstTime_b38 C fN (x1) (x2) (x3) σ3 H locs ls hf hP hS (lv_sub hl [1, 2, 3, 0] rfl)
    have hf := fif_pos q hf
    refine lv_sipush (v := (-10002 : Int32)) C.1 C.2.1 (kd kX8_firstTime_0 15 rfl) (by decide) ?_
    exact fl_iret C hP hS hf (kd kX8_firstTime_0 16 rfl)
  have hf := fif_pos q hf
  refine lv_sipush (v := (-10001 : Int32)) C.1 C.2.1 (kd kX8_firstTime_0 8 rfl) (by decide) ?_
  exact fl_iret C hP hS hf (kd kX8_firstTime_0 9 rfl)
def f_X8_isLane (x1 : Int32) (x2 : Int32) (σ : fS) : Option (Int32 × fS) := fcall (f_X8_isCrossing x1 σ) (fun r1_ σ1 => (if r1_ = 0 then some ((0 : Int32), σ1) else fcall (f_X8_of x1 (0 : Int32) σ1) (fun r2_ σ2 => fcall (f_X8_shipOf r2_ (1 : Int32) σ2) (fun r3_ σ3 => fcall (f_X8_in x2 (0 : Int32) (r3_ - (1 : Int32)) σ3) (fun r4_ σ4 => (if r4_ = 0 then some ((0 : Int32), σ4) else some ((1 : Int32), σ4)))))))
set_option maxRecDepth 100000 in
set_option maxHeartbeats 4000000 in
theorem m_X8_isLane {Γ : fGm} (hI : fI Γ) (l : Launch) {x1 : Int32} {x2 : Int32} {σ : fS} {r : Int32} {σ' : fS} (hf : f_X8_isLane x1 x2 σ = some (r, σ')) : Met l yX8_isLane (.code yX8_isLane cX8_isLane 3 (some .boolean) :: lw_g) ({ frames := 2, cells := 0, slots := 0, locals := 43 } : Room) (fPre Γ [.ref (Γ.1 164), .int x1, .int x2] σ) (fQi Γ r σ') 0 0 (fAd Γ) := by
  refine fl_enter (own := RX8) hI (by decide +kernel) rfl (Nat.le_of_ble_eq_true rfl) ?_
  intro p e s m args below meth c ls C hl hP hS
  have hl : lv_has ls 3 [(0, .ref (Γ.1 164)), (1, .int x1), (2, .int x2)] := hl
  obtain ⟨H, hH⟩ : ∃ H, H = s.heap := ⟨_, rfl⟩
  obtain ⟨locs, hL⟩ : ∃ L : List Loc, L = [] := ⟨_, rfl⟩
  have hP : fH Γ σ H := by rw [hH]; exact hP
  have hS : va_S (fAd Γ) s.heap H locs := by rw [hH, hL]; exact hS
  suffices hw : W p l e ({ frames := 2, cells := 0, slots := 0, locals := 43 } : Room) s m args below meth c H locs 0 0 (MQ below (fQi Γ r σ') args s 0 0 (fAd Γ)) (F0 m 0 ls []) by rw [hH, hL] at hw; exact hw
  unfold f_X8_isLane at hf
  refine lv_aload_n C.1 C.2.1 (kd kX8_isLane_0 0 rfl) rfl (lv_at hl 0 rfl) ?_
  refine lv_iload_n C.1 C.2.1 (kd kX8_isLane_0 1 rfl) rfl (lv_at hl 1 rfl) ?_
  obtain ⟨r1_, σ1, hσ1, hf⟩ := fcall_some hf
  refine fl_i hS (fl_runV (As := [.int x1]) (rest := []) C hP rfl (Nat.le_of_ble_eq_true rfl) rfl (m_X8_isCrossing C.2.2.2.2.2.2.2.2 l  hσ1) (fgV tw_1010 tw_1012 tw_28 tw_75 tw_1013) hd_X8_isCrossing ⟨rfl, rfl, Nat.le_of_ble_eq_true rfl, Nat.le_of_ble_eq_true rfl⟩ rfl hl.1 rfl (Nat.le_of_ble_eq_true rfl) (kd kX8_isLane_0 2 rfl)) (fun H locs hP hS => ?_)
  refine lv_if_eq (tgt := 33) C.1 C.2.1 (kd kX8_isLane_0 3 rfl) (by decide) (fun q => ?_) (fun q => ?_)
  · have hf := fif_pos q hf
    refine lv_iconst (v := (0 : Int32)) C.1 C.2.1 (kd kX8_isLane_0 19 rfl) (by decide) ?_
    exact fl_zret C hP hS rfl hf (kd kX8_isLane_0 20 rfl)
  have hf := fif_neg q hf
  refine lv_iload_n C.1 C.2.1 (kd kX8_isLane_0 4 rfl) rfl (lv_at hl 2 rfl) ?_
  refine lv_iconst (v := (0 : Int32)) C.1 C.2.1 (kd kX8_isLane_0 5 rfl) (by decide) ?_
  refine lv_aload_n C.1 C.2.1 (kd kX8_isLane_0 6 rfl) rfl (lv_at hl 0 rfl) ?_
  refine lv_aload_n C.1 C.2.1 (kd kX8_isLane_0 7 rfl) rfl (lv_at hl 0 rfl) ?_
  refine lv_iload_n C.1 C.2.1 (kd kX8_isLane_0 8 rfl) rfl (lv_at hl 1 rfl) ?_
  refine lv_iconst (v := (0 : Int32)) C.1 C.2.1 (kd kX8_isLane_0 9 rfl) (by decide) ?_
  obtain ⟨r2_, σ2, hσ2, hf⟩ := fcall_some hf
  refine fl_i hS (fl_runV (As := [.int x1, .int (0 : Int32)]) (rest := [.ref (Γ.1 164), .int (0 : Int32), .int x2]) C hP rfl (Nat.le_of_ble_eq_true rfl) rfl (m_X8_of C.2.2.2.2.2.2.2.2 l  hσ2) (fgV tw_1118 tw_1120 tw_43 tw_75 tw_1121) hd_X8_of ⟨rfl, rfl, Nat.le_of_ble_eq_true rfl, Nat.le_of_ble_eq_true rfl⟩ rfl hl.1 rfl (Nat.le_of_ble_eq_true rfl) (kd kX8_isLane_0 10 rfl)) (fun H locs hP hS => ?_)
  refine lv_iconst (v := (1 : Int32)) C.1 C.2.1 (kd kX8_isLane_0 11 rfl) (by decide) ?_
  obtain ⟨r3_, σ3, hσ3, hf⟩ := fcall_some hf
  refine fl_i hS (fl_runV (As := [.int r2_, .int (1 : Int32)]) (rest := [.int (0 : Int32), .int x2]) C hP rfl (Nat.le_of_ble_eq_true rfl) rfl (m_X8_shipOf C.2.2.2.2.2.2.2.2 l  hσ3) (fgV tw_1102 tw_1104 tw_39 tw_75 tw_1105) hd_X8_shipOf ⟨rfl, rfl, Nat.le_of_ble_eq_true rfl, Nat.le_of_ble_eq_true rfl⟩ rfl hl.1 rfl (Nat.le_of_ble_eq_true rfl) (kd kX8_isLane_0 12 rfl)) (fun H locs hP hS => ?_)
  refine lv_iconst (v := (1 : Int32)) C.1 C.2.1 (kd kX8_isLane_0 13 rfl) (by decide) ?_
  refine lv_isub C.1 C.2.1 (kd kX8_isLane_0 14 rfl) ?_
  obtain ⟨r4_, σ4, hσ4, hf⟩ := fcall_some hf
  refine fl_i hS (fl_runS (As := [.int x2, .int (0 : Int32), .int (r3_ - (1 : Int32))]) (rest := []) C hP (m_X8_in C.2.2.2.2.2.2.2.2 l  hσ4) (fgS tw_968 tw_969 tw_75 tw_970) hs_X8_in ⟨rfl, rfl, Nat.le_of_ble_eq_true rfl, Nat.le_of_ble_eq_true rfl⟩ rfl hl.1 rfl (Nat.le_of_ble_eq_true rfl) (kd kX8_isLane_0 15 rfl)) (fun H locs hP hS => ?_)
  refine lv_if_eq (tgt := 33) C.1 C.2.1 (kd kX8_isLane_0 16 rfl) (by decide) (fun q => ?_) (fun q => ?_)
  · have hf := fif_pos q hf
    refine lv_iconst (v := (0 : Int32)) C.1 C.2.1 (kd kX8_isLane_0 19 rfl) (by decide) ?_
    exact fl_zret C hP hS rfl hf (kd kX8_isLane_0 20 rfl)
  have hf := fif_neg q hf
  refine lv_iconst (v := (1 : Int32)) C.1 C.2.1 (kd kX8_isLane_0 17 rfl) (by decide) ?_
  refine lv_goto (tgt := 34) C.1 C.2.1 (kd kX8_isLane_0 18 rfl) (by decide) ?_
  exact fl_zret C hP hS rfl hf (kd kX8_isLane_0 20 rfl)
def f_X8_laneLeft (x1 : Int32) (x2 : Int32) (σ : fS) : Option (Int32 × fS) := fcall (f_X8_isLane x1 x2 σ) (fun r1_ σ1 => (if r1_ = 0 then some ((-10001 : Int32), σ1) else fcallv (f_X8_tell σ1) (fun σ2 => fb x1 12 ((if (σ2 173 x1.toNatClampNeg) = 0 then fb (((4 : Int32) * x1) + x2) 48 (some ((σ2 184 (((4 : Int32) * x1) + x2).toNatClampNeg), σ2)) else some ((-10005 : Int32), σ2))))))
set_option maxRecDepth 100000 in
set_option maxHeartbeats 4000000 in
theorem m_X8_laneLeft {Γ : fGm} (hI : fI Γ) (l : Launch) {x1 : Int32} {x2 : Int32} {σ : fS} {r : Int32} {σ' : fS} (hf : f_X8_laneLeft x1 x2 σ = some (r, σ')) : Met l yX8_laneLeft (.code yX8_laneLeft cX8_laneLeft 3 (some .int) :: lw_g) ({ frames := 7, cells := 0, slots := 0, locals := 163 } : Room) (fPre Γ [.ref (Γ.1 164), .int x1, .int x2] σ) (fQi Γ r σ') 0 0 (fAd Γ) := by
  refine fl_enter (own := RX8) hI (by decide +kernel) rfl (Nat.le_of_ble_eq_true rfl) ?_
  intro p e s m args below meth c ls C hl hP hS
  have hl : lv_has ls 3 [(0, .ref (Γ.1 164)), (1, .int x1), (2, .int x2)] := hl
  obtain ⟨H, hH⟩ : ∃ H, H = s.heap := ⟨_, rfl⟩
  obtain ⟨locs, hL⟩ : ∃ L : List Loc, L = [] := ⟨_, rfl⟩
  have hP : fH Γ σ H := by rw [hH]; exact hP
  have hS : va_S (fAd Γ) s.heap H locs := by rw [hH, hL]; exact hS
  suffices hw : W p l e ({ frames := 7, cells := 0, slots := 0, locals := 163 } : Room) s m args below meth c H locs 0 0 (MQ below (fQi Γ r σ') args s 0 0 (fAd Γ)) (F0 m 0 ls []) by rw [hH, hL] at hw; exact hw
  unfold f_X8_laneLeft at hf
  refine lv_aload_n C.1 C.2.1 (kd kX8_laneLeft_0 0 rfl) rfl (lv_at hl 0 rfl) ?_
  refine lv_iload_n C.1 C.2.1 (kd kX8_laneLeft_0 1 rfl) rfl (lv_at hl 1 rfl) ?_
  refine lv_iload_n C.1 C.2.1 (kd kX8_laneLeft_0 2 rfl) rfl (lv_at hl 2 rfl) ?_
  obtain ⟨r1_, σ1, hσ1, hf⟩ := fcall_some hf
  refine fl_i hS (fl_runV (As := [.int x1, .int x2]) (rest := []) C hP rfl (Nat.le_of_ble_eq_true rfl) rfl (m_X8_isLane C.2.2.2.2.2.2.2.2 l  hσ1) (fgV tw_1245 tw_1247 tw_60 tw_75 tw_1248) hd_X8_isLane ⟨rfl, rfl, Nat.le_of_ble_eq_true rfl, Nat.le_of_ble_eq_true rfl⟩ rfl hl.1 rfl (Nat.le_of_ble_eq_true rfl) (kd kX8_laneLeft_0 3 rfl)) (fun H locs hP hS => ?_)
  refine lv_if_ne (tgt := 13) C.1 C.2.1 (kd kX8_laneLeft_0 4 rfl) (by decide) (fun q => ?_) (fun q => ?_)
  · have hf := fif_neg q hf
    refine lv_aload_n C.1 C.2.1 (kd kX8_laneLeft_0 7 rfl) rfl (lv_at hl 0 rfl) ?_
    obtain ⟨σ2, hσ2, hf⟩ := fcallv_some hf
    refine fl_v hS (fl_runV (As := []) (rest := []) C hP rfl (Nat.le_of_ble_eq_true rfl) rfl (m_X8_tell C.2.2.2.2.2.2.2.2 l  hσ2) (fgV tw_1110 tw_1112 tw_41 tw_75 tw_1113) hd_X8_tell ⟨rfl, rfl, Nat.le_of_ble_eq_true rfl, Nat.le_of_ble_eq_true rfl⟩ rfl hl.1 rfl (Nat.le_of_ble_eq_true rfl) (kd kX8_laneLeft_0 8 rfl)) (fun H locs hP hS => ?_)
    refine lv_aload_n C.1 C.2.1 (kd kX8_laneLeft_0 9 rfl) rfl (lv_at hl 0 rfl) ?_
    refine fl_get (j := 14) (v := .ref (Γ.1 173)) C hP rfl (Nat.le_of_ble_eq_true rfl) rfl inX8 (Nat.le_of_ble_eq_true rfl) tw_876 rfl (kd kX8_laneLeft_0 10 rfl) ?_
    refine lv_iload_n C.1 C.2.1 (kd kX8_laneLeft_0 11 rfl) rfl (lv_at hl 1 rfl) ?_
    obtain ⟨hq, hf⟩ := fb_some hf
    refine fl_iald C hP rfl hq (kd kX8_laneLeft_0 12 rfl) ?_
    refine lv_if_eq (tgt := 32) C.1 C.2.1 (kd kX8_laneLeft_0 13 rfl) (by decide) (fun q => ?_) (fun q => ?_)
    · have hf := fif_pos q hf
      refine lv_aload_n C.1 C.2.1 (kd kX8_laneLeft_0 16 rfl) rfl (lv_at hl 0 rfl) ?_
      refine fl_get (j := 25) (v := .ref (Γ.1 184)) C hP rfl (Nat.le_of_ble_eq_true rfl) rfl inX8 (Nat.le_of_ble_eq_true rfl) tw_887 rfl (kd kX8_laneLeft_0 17 rfl) ?_
      refine lv_iconst (v := (4 : Int32)) C.1 C.2.1 (kd kX8_laneLeft_0 18 rfl) (by decide) ?_
      refine lv_iload_n C.1 C.2.1 (kd kX8_laneLeft_0 19 rfl) rfl (lv_at hl 1 rfl) ?_
      refine lv_imul C.1 C.2.1 (kd kX8_laneLeft_0 20 rfl) ?_
      refine lv_iload_n C.1 C.2.1 (kd kX8_laneLeft_0 21 rfl) rfl (lv_at hl 2 rfl) ?_
      refine lv_iadd C.1 C.2.1 (kd kX8_laneLeft_0 22 rfl) ?_
      obtain ⟨hq, hf⟩ := fb_some hf
      refine fl_iald C hP rfl hq (kd kX8_laneLeft_0 23 rfl) ?_
      exact fl_iret C hP hS hf (kd kX8_laneLeft_0 24 rfl)
    have hf := fif_neg q hf
    refine lv_sipush (v := (-10005 : Int32)) C.1 C.2.1 (kd kX8_laneLeft_0 14 rfl) (by decide) ?_
    refine lv_goto (tgt := 42) C.1 C.2.1 (kd kX8_laneLeft_0 15 rfl) (by decide) ?_
    exact fl_iret C hP hS hf (kd kX8_laneLeft_0 24 rfl)
  have hf := fif_pos q hf
  refine lv_sipush (v := (-10001 : Int32)) C.1 C.2.1 (kd kX8_laneLeft_0 5 rfl) (by decide) ?_
  exact fl_iret C hP hS hf (kd kX8_laneLeft_0 6 rfl)
def f_X8_laneVehicle (x1 : Int32) (x2 : Int32) (x3 : Int32) (σ : fS) : Option (Int32 × fS) := fcall (f_X8_isLane x1 x2 σ) (fun r1_ σ1 => (if r1_ = 0 then some ((-10001 : Int32), σ1) else fcallv (f_X8_tell σ1) (fun σ2 => fb (((4 : Int32) * x1) + x2) 48 (fcall (f_X8_in x3 (0 : Int32) ((σ2 182 (((4 : Int32) * x1) + x2).toNatClampNeg) - (1 : Int32)) σ2) (fun r3_ σ3 => (if r3_ = 0 then some ((-10004 : Int32), σ3) else fb (((24 : Int32) * (((4 : Int32) * x1) + x2)) + x3) 1152 (some ((σ3 183 (((24 : Int32) * (((4 : Int32) * x1) + x2)) + x3).toNatClampNeg), σ3))))))))
set_option maxRecDepth 100000 in
set_option maxHeartbeats 4000000 in
theorem m_X8_laneVehicle {Γ : fGm} (hI : fI Γ) (l : Launch) {x1 : Int32} {x2 : Int32} {x3 : Int32} {σ : fS} {r : Int32} {σ' : fS} (hf : f_X8_laneVehicle x1 x2 x3 σ = some (r, σ')) : Met l yX8_laneVehicle (.code yX8_laneVehicle cX8_laneVehicle 5 (some .int) :: lw_g) ({ frames := 7, cells := 0, slots := 0, locals := 163 } : Room) (fPre Γ [.ref (Γ.1 164), .int x1, .int x2, .int x3] σ) (fQi Γ r σ') 0 0 (fAd Γ) := by
  refine fl_enter (own := RX8) hI (by decide +kernel) rfl (Nat.le_of_ble_eq_true rfl) ?_
  intro p e s m args below meth c ls C hl hP hS
  have hl : lv_has ls 5 [(0, .ref (Γ.1 164)), (1, .int x1), (2, .int x2), (3, .int x3)] := hl
  obtain ⟨H, hH⟩ : ∃ H, H = s.heap := ⟨_, rfl⟩
  obtain ⟨locs, hL⟩ : ∃ L : List Loc, L = [] := ⟨_, rfl⟩
  have hP : fH Γ σ H := by rw [hH]; exact hP
  have hS : va_S (fAd Γ) s.heap H locs := by rw [hH, hL]; exact hS
  suffices hw : W p l e ({ frames := 7, cells := 0, slots := 0, locals := 163 } : Room) s m args below meth c H locs 0 0 (MQ below (fQi Γ r σ') args s 0 0 (fAd Γ)) (F0 m 0 ls []) by rw [hH, hL] at hw; exact hw
  unfold f_X8_laneVehicle at hf
  refine lv_aload_n C.1 C.2.1 (kd kX8_laneVehicle_0 0 rfl) rfl (lv_at hl 0 rfl) ?_
  refine lv_iload_n C.1 C.2.1 (kd kX8_laneVehicle_0 1 rfl) rfl (lv_at hl 1 rfl) ?_
  refine lv_iload_n C.1 C.2.1 (kd kX8_laneVehicle_0 2 rfl) rfl (lv_at hl 2 rfl) ?_
  obtain ⟨r1_, σ1, hσ1, hf⟩ := fcall_some hf
  refine fl_i hS (fl_runV (As := [.int x1, .int x2]) (rest := []) C hP rfl (Nat.le_of_ble_eq_true rfl) rfl (m_X8_isLane C.2.2.2.2.2.2.2.2 l  hσ1) (fgV tw_1245 tw_1247 tw_60 tw_75 tw_1248) hd_X8_isLane ⟨rfl, rfl, Nat.le_of_ble_eq_true rfl, Nat.le_of_ble_eq_true rfl⟩ rfl hl.1 rfl (Nat.le_of_ble_eq_true rfl) (kd kX8_laneVehicle_0 3 rfl)) (fun H locs hP hS => ?_)
  refine lv_if_ne (tgt := 13) C.1 C.2.1 (kd kX8_laneVehicle_0 4 rfl) (by decide) (fun q => ?_) (fun q => ?_)
  · have hf := fif_neg q hf
    refine lv_aload_n C.1 C.2.1 (kd kX8_laneVehicle_0 7 rfl) rfl (lv_at hl 0 rfl) ?_
    obtain ⟨σ2, hσ2, hf⟩ := fcallv_some hf
    refine fl_v hS (fl_runV (As := []) (rest := []) C hP rfl (Nat.le_of_ble_eq_true rfl) rfl (m_X8_tell C.2.2.2.2.2.2.2.2 l  hσ2) (fgV tw_1110 tw_1112 tw_41 tw_75 tw_1113) hd_X8_tell ⟨rfl, rfl, Nat.le_of_ble_eq_true rfl, Nat.le_of_ble_eq_true rfl⟩ rfl hl.1 rfl (Nat.le_of_ble_eq_true rfl) (kd kX8_laneVehicle_0 8 rfl)) (fun H locs hP hS => ?_)
    refine lv_iconst (v := (4 : Int32)) C.1 C.2.1 (kd kX8_laneVehicle_0 9 rfl) (by decide) ?_
    refine lv_iload_n C.1 C.2.1 (kd kX8_laneVehicle_0 10 rfl) rfl (lv_at hl 1 rfl) ?_
    refine lv_imul C.1 C.2.1 (kd kX8_laneVehicle_0 11 rfl) ?_
    refine lv_iload_n C.1 C.2.1 (kd kX8_laneVehicle_0 12 rfl) rfl (lv_at hl 2 rfl) ?_
    refine lv_iadd C.1 C.2.1 (kd kX8_laneVehicle_0 13 rfl) ?_
    refine lv_istore (lv' := [(4, .int (((4 : Int32) * x1) + x2)), (0, .ref (Γ.1 164)), (1, .int x1), (2, .int x2), (3, .int x3)]) C.1 C.2.1 (kd kX8_laneVehicle_0 14 rfl) hl (Nat.le_of_ble_eq_true rfl) rfl (fun ls hl => ?_)
    refine lv_iload_n C.1 C.2.1 (kd kX8_laneVehicle_0 15 rfl) rfl (lv_at hl 4 rfl) ?_
    refine lv_iconst (v := (0 : Int32)) C.1 C.2.1 (kd kX8_laneVehicle_0 16 rfl) (by decide) ?_
    refine lv_aload_n C.1 C.2.1 (kd kX8_laneVehicle_0 17 rfl) rfl (lv_at hl 1 rfl) ?_
    refine fl_get (j := 23) (v := .ref (Γ.1 182)) C hP rfl (Nat.le_of_ble_eq_true rfl) rfl inX8 (Nat.le_of_ble_eq_true rfl) tw_885 rfl (kd kX8_laneVehicle_0 18 rfl) ?_
    refine lv_iload C.1 C.2.1 (kd kX8_laneVehicle_0 19 rfl) (lv_at hl 0 rfl) ?_
    obtain ⟨hq, hf⟩ := fb_some hf
    refine fl_iald C hP rfl hq (kd kX8_laneVehicle_0 20 rfl) ?_
    refine lv_iconst (v := (1 : Int32)) C.1 C.2.1 (kd kX8_laneVehicle_0 21 rfl) (by decide) ?_
    refine lv_isub C.1 C.2.1 (kd kX8_laneVehicle_0 22 rfl) ?_
    obtain ⟨r3_, σ3, hσ3, hf⟩ := fcall_some hf
    refine fl_i hS (fl_runS (As := [.int x3, .int (0 : Int32), .int ((σ2 182 (((4 : Int32) * x1) + x2).toNatClampNeg) - (1 : Int32))]) (rest := []) C hP (m_X8_in C.2.2.2.2.2.2.2.2 l  hσ3) (fgS tw_968 tw_969 tw_75 tw_970) hs_X8_in ⟨rfl, rfl, Nat.le_of_ble_eq_true rfl, Nat.le_of_ble_eq_true rfl⟩ rfl hl.1 rfl (Nat.le_of_ble_eq_true rfl) (kd kX8_laneVehicle_0 23 rfl)) (fun H locs hP hS => ?_)
    refine lv_if_eq (tgt := 56) C.1 C.2.1 (kd kX8_laneVehicle_0 24 rfl) (by decide) (fun q => ?_) (fun q => ?_)
    · have hf := fif_pos q hf
      refine lv_sipush (v := (-10004 : Int32)) C.1 C.2.1 (kd kX8_laneVehicle_0 34 rfl) (by decide) ?_
      exact fl_iret C hP hS hf (kd kX8_laneVehicle_0 35 rfl)
    have hf := fif_neg q hf
    refine lv_aload_n C.1 C.2.1 (kd kX8_laneVehicle_0 25 rfl) rfl (lv_at hl 1 rfl) ?_
    refine fl_get (j := 24) (v := .ref (Γ.1 183)) C hP rfl (Nat.le_of_ble_eq_true rfl) rfl inX8 (Nat.le_of_ble_eq_true rfl) tw_886 rfl (kd kX8_laneVehicle_0 26 rfl) ?_
    refine lv_bipush (v := (24 : Int32)) C.1 C.2.1 (kd kX8_laneVehicle_0 27 rfl) (by decide) ?_
    refine lv_iload C.1 C.2.1 (kd kX8_laneVehicle_0 28 rfl) (lv_at hl 0 rfl) ?_
    refine lv_imul C.1 C.2.1 (kd kX8_laneVehicle_0 29 rfl) ?_
    refine lv_iload_n C.1 C.2.1 (kd kX8_laneVehicle_0 30 rfl) rfl (lv_at hl 4 rfl) ?_
    refine lv_iadd C.1 C.2.1 (kd kX8_laneVehicle_0 31 rfl) ?_
    obtain ⟨hq, hf⟩ := fb_some hf
    refine fl_iald C hP rfl hq (kd kX8_laneVehicle_0 32 rfl) ?_
    refine lv_goto (tgt := 59) C.1 C.2.1 (kd kX8_laneVehicle_0 33 rfl) (by decide) ?_
    exact fl_iret C hP hS hf (kd kX8_laneVehicle_0 35 rfl)
  have hf := fif_pos q hf
  refine lv_sipush (v := (-10001 : Int32)) C.1 C.2.1 (kd kX8_laneVehicle_0 5 rfl) (by decide) ?_
  exact fl_iret C hP hS hf (kd kX8_laneVehicle_0 6 rfl)
def f_X8_tellLeaving_b195 (K48 : Int32 → Int32 → Int32 → fS → Option (fS)) (K57 : Int32 → Int32 → Int32 → Int32 → fS → Option (fS)) (K74 : Int32 → Int32 → Int32 → Int32 → Int32 → Int32 → fS → Option (fS)) (v1 : Int32) (v2 : Int32) (v3 : Int32) (v4 : Int32) (v5 : Int32) (v6 : Int32) (σ : fS) : Option (fS) := K74 (v1) (v2) (v3) (v4) (v5) (v6) σ
set_option maxRecDepth 100000 in
set_option maxHeartbeats 4000000 in
theorem w_X8_tellLeaving_b195 {σ' : fS} {K48 : Int32 → Int32 → Int32 → fS → Option (fS)} {K57 : Int32 → Int32 → Int32 → Int32 → fS → Option (fS)} {K74 : Int32 → Int32 → Int32 → Int32 → Int32 → Int32 → fS → Option (fS)}  (C : fC Γ p s m args meth c cX8_tellLeaving none RX8 8) (hK48 : ∀ (v1 : Int32) (v2 : Int32) (v3 : Int32) (σ : fS) (H : Heap) (locs : List Loc) (ls : Array Slot), K48 v1 v2 v3 σ = some σ' → fH Γ σ H → va_S (fAd Γ) s.heap H locs → lv_has ls 8 [(0, .ref (Γ.1 164)), (1, .int v1), (2, .int v2), (3, .int v3)] → W p l e ({ frames := 1, cells := 0, slots := 0, locals := 22 } : Room) s m args below meth c H locs 0 0 (MQ below (fQv Γ σ') args s 0 0 (fAd Γ)) (F0 m 48 ls [])) (hK57 : ∀ (v1 : Int32) (v2 : Int32) (v3 : Int32) (v4 : Int32) (σ : fS) (H : Heap) (locs : List Loc) (ls : Array Slot), K57 v1 v2 v3 v4 σ = some σ' → fH Γ σ H → va_S (fAd Γ) s.heap H locs → lv_has ls 8 [(0, .ref (Γ.1 164)), (1, .int v1), (2, .int v2), (3, .int v3), (4, .int v4)] → W p l e ({ frames := 1, cells := 0, slots := 0, locals := 22 } : Room) s m args below meth c H locs 0 0 (MQ below (fQv Γ σ') args s 0 0 (fAd Γ)) (F0 m 57 ls [])) (hK74 : ∀ (v1 : Int32) (v2 : Int32) (v3 : Int32) (v4 : Int32) (v5 : Int32) (v6 : Int32) (σ : fS) (H : Heap) (locs : List Loc) (ls : Array Slot), K74 v1 v2 v3 v4 v5 v6 σ = some σ' → fH Γ σ H → va_S (fAd Γ) s.heap H locs → lv_has ls 8 [(0, .ref (Γ.1 164)), (1, .int v1), (2, .int v2), (3, .int v3), (4, .int v4), (5, .int v5), (6, .int v6)] → W p l e ({ frames := 1, cells := 0, slots := 0, locals := 22 } : Room) s m args below meth c H locs 0 0 (MQ below (fQv Γ σ') args s 0 0 (fAd Γ)) (F0 m 74 ls [])) : ∀ (v1 : Int32) (v2 : Int32) (v3 : Int32) (v4 : Int32) (v5 : Int32) (v6 : Int32) (σ : fS) (H : Heap) (locs : List Loc) (ls : Array Slot), f_X8_tellLeaving_b195 K48 K57 K74 v1 v2 v3 v4 v5 v6 σ = some σ' → fH Γ σ H → va_S (fAd Γ) s.heap H locs → lv_has ls 8 [(0, .ref (Γ.1 164)), (1, .int v1), (2, .int v2), (3, .int v3), (4, .int v4), (5, .int v5), (6, .int v6)] → W p l e ({ frames := 1, cells := 0, slots := 0, locals := 22 } : Room) s m args below meth c H locs 0 0 (MQ below (fQv Γ σ') args s 0 0 (fAd Γ)) (F0 m 195 ls []) := by
  intro v1 v2 v3 v4 v5 v6 σ H locs ls hf hP hS hl
  unfold f_X8_tellLeaving_b195 at hf
  refine lv_goto (tgt := 74) C.1 C.2.1 (kd kX8_tellLeaving_1 55 rfl) (by decide) ?_
  exact hK74 (v1) (v2) (v3) (v4) (v5) (v6) σ H locs ls hf hP hS (lv_sub hl [0, 1, 2, 3, 4, 5, 6] rfl)
def f_X8_tellLeaving_b156 (K48 : Int32 → Int32 → Int32 → fS → Option (fS)) (K57 : Int32 → Int32 → Int32 → Int32 → fS → Option (fS)) (K74 : Int32 → Int32 → Int32 → Int32 → Int32 → Int32 → fS → Option (fS)) (v1 : Int32) (v2 : Int32) (v3 : Int32) (v4 : Int32) (v5 : Int32) (v7 : Int32) (s0 : Int32) (σ : fS) : Option (fS) := (if s0 = 0 then f_X8_tellLeaving_b195 K48 K57 K74 (v1) (v2) (v3) (v4) (v5) (s0) σ else fb (σ 164 27) 24 (fL (fu σ 185 (σ 164 27).toNatClampNeg v7) (fun σ1 => fL (fu σ1 164 27 ((σ1 164 27) + (1 : Int32))) (fun σ2 => fb v4 4 (fb v4 4 (fL (fu σ2 186 v4.toNatClampNeg ((σ2 186 v4.toNatClampNeg) + (1 : Int32))) (fun σ3 => f_X8_tellLeaving_b195 K48 K57 K74 (v1) (v2) (v3) (v4) (v5) (s0) σ3)))))))
set_option maxRecDepth 100000 in
set_option maxHeartbeats 4000000 in
theorem w_X8_tellLeaving_b156 {σ' : fS} {K48 : Int32 → Int32 → Int32 → fS → Option (fS)} {K57 : Int32 → Int32 → Int32 → Int32 → fS → Option (fS)} {K74 : Int32 → Int32 → Int32 → Int32 → Int32 → Int32 → fS → Option (fS)}  (C : fC Γ p s m args meth c cX8_tellLeaving none RX8 8) (hK48 : ∀ (v1 : Int32) (v2 : Int32) (v3 : Int32) (σ : fS) (H : Heap) (locs : List Loc) (ls : Array Slot), K48 v1 v2 v3 σ = some σ' → fH Γ σ H → va_S (fAd Γ) s.heap H locs → lv_has ls 8 [(0, .ref (Γ.1 164)), (1, .int v1), (2, .int v2), (3, .int v3)] → W p l e ({ frames := 1, cells := 0, slots := 0, locals := 22 } : Room) s m args below meth c H locs 0 0 (MQ below (fQv Γ σ') args s 0 0 (fAd Γ)) (F0 m 48 ls [])) (hK57 : ∀ (v1 : Int32) (v2 : Int32) (v3 : Int32) (v4 : Int32) (σ : fS) (H : Heap) (locs : List Loc) (ls : Array Slot), K57 v1 v2 v3 v4 σ = some σ' → fH Γ σ H → va_S (fAd Γ) s.heap H locs → lv_has ls 8 [(0, .ref (Γ.1 164)), (1, .int v1), (2, .int v2), (3, .int v3), (4, .int v4)] → W p l e ({ frames := 1, cells := 0, slots := 0, locals := 22 } : Room) s m args below meth c H locs 0 0 (MQ below (fQv Γ σ') args s 0 0 (fAd Γ)) (F0 m 57 ls [])) (hK74 : ∀ (v1 : Int32) (v2 : Int32) (v3 : Int32) (v4 : Int32) (v5 : Int32) (v6 : Int32) (σ : fS) (H : Heap) (locs : List Loc) (ls : Array Slot), K74 v1 v2 v3 v4 v5 v6 σ = some σ' → fH Γ σ H → va_S (fAd Γ) s.heap H locs → lv_has ls 8 [(0, .ref (Γ.1 164)), (1, .int v1), (2, .int v2), (3, .int v3), (4, .int v4), (5, .int v5), (6, .int v6)] → W p l e ({ frames := 1, cells := 0, slots := 0, locals := 22 } : Room) s m args below meth c H locs 0 0 (MQ below (fQv Γ σ') args s 0 0 (fAd Γ)) (F0 m 74 ls [])) : ∀ (v1 : Int32) (v2 : Int32) (v3 : Int32) (v4 : Int32) (v5 : Int32) (v7 : Int32) (s0 : Int32) (σ : fS) (H : Heap) (locs : List Loc) (ls : Array Slot), f_X8_tellLeaving_b156 K48 K57 K74 v1 v2 v3 v4 v5 v7 s0 σ = some σ' → fH Γ σ H → va_S (fAd Γ) s.heap H locs → lv_has ls 8 [(0, .ref (Γ.1 164)), (1, .int v1), (2, .int v2), (3, .int v3), (4, .int v4), (5, .int v5), (7, .int v7)] → W p l e ({ frames := 1, cells := 0, slots := 0, locals := 22 } : Room) s m args below meth c H locs 0 0 (MQ below (fQv Γ σ') args s 0 0 (fAd Γ)) (F0 m 156 ls [.int s0]) := by
  intro v1 v2 v3 v4 v5 v7 s0 σ H locs ls hf hP hS hl
  unfold f_X8_tellLeaving_b156 at hf
  refine lv_istore (lv' := [(6, .int s0), (0, .ref (Γ.1 164)), (1, .int v1), (2, .int v2), (3, .int v3), (4, .int v4), (5, .int v5), (7, .int v7)]) C.1 C.2.1 (kd kX8_tellLeaving_1 32 rfl) hl (Nat.le_of_ble_eq_true rfl) rfl (fun ls hl => ?_)
  refine lv_iload C.1 C.2.1 (kd kX8_tellLeaving_1 33 rfl) (lv_at hl 0 rfl) ?_
  refine lv_if_eq (tgt := 195) C.1 C.2.1 (kd kX8_tellLeaving_1 34 rfl) (by decide) (fun q => ?_) (fun q => ?_)
  · have hf := fif_pos q hf
    exact w_X8_tellLeaving_b195 C hK48 hK57 hK74 (v1) (v2) (v3) (v4) (v5) (s0) σ H locs ls hf hP hS (lv_sub hl [1, 2, 3, 4, 5, 6, 0] rfl)
  have hf := fif_neg q hf
  refine lv_aload_n C.1 C.2.1 (kd kX8_tellLeaving_1 35 rfl) rfl (lv_at hl 1 rfl) ?_
  refine fl_get (j := 26) (v := .ref (Γ.1 185)) C hP rfl (Nat.le_of_ble_eq_true rfl) rfl inX8 (Nat.le_of_ble_eq_true rfl) tw_888 rfl (kd kX8_tellLeaving_1 36 rfl) ?_
  refine lv_aload_n C.1 C.2.1 (kd kX8_tellLeaving_1 37 rfl) rfl (lv_at hl 1 rfl) ?_
  refine fl_get (j := 27) (v := .int (σ 164 27)) C hP rfl (Nat.le_of_ble_eq_true rfl) rfl inX8 (Nat.le_of_ble_eq_true rfl) tw_889 rfl (kd kX8_tellLeaving_1 38 rfl) ?_
  refine lv_iload C.1 C.2.1 (kd kX8_tellLeaving_1 39 rfl) (lv_at hl 7 rfl) ?_
  obtain ⟨hq, hf⟩ := fb_some hf
  obtain ⟨σ1, eσ1, hf⟩ := fL_some hf
  refine fl_iast C hP hS rfl hq (kd kX8_tellLeaving_1 40 rfl) (fun H locs hP hS => ?_)
  have hP : fH Γ σ1 H := by rw [eσ1]; exact hP
  refine lv_aload_n C.1 C.2.1 (kd kX8_tellLeaving_1 41 rfl) rfl (lv_at hl 1 rfl) ?_
  refine lv_dup C.1 C.2.1 (kd kX8_tellLeaving_1 42 rfl) rfl ?_
  refine fl_get (j := 27) (v := .int (σ1 164 27)) C hP rfl (Nat.le_of_ble_eq_true rfl) rfl inX8 (Nat.le_of_ble_eq_true rfl) tw_889 rfl (kd kX8_tellLeaving_1 43 rfl) ?_
  refine lv_iconst (v := (1 : Int32)) C.1 C.2.1 (kd kX8_tellLeaving_1 44 rfl) (by decide) ?_
  refine lv_iadd C.1 C.2.1 (kd kX8_tellLeaving_1 45 rfl) ?_
  obtain ⟨σ2, eσ2, hf⟩ := fL_some hf
  refine fl_put (j := 27) C hP hS rfl rfl (Nat.le_of_ble_eq_true rfl) rfl inX8 tyX8 tyX8_ok nmX8 (Nat.le_of_ble_eq_true rfl) tw_889 rfl rfl rfl (Nat.le_of_ble_eq_true rfl) (kd kX8_tellLeaving_1 46 rfl) (fun H locs hP hS => ?_)
  have hP : fH Γ σ2 H := by rw [eσ2]; exact hP
  refine lv_aload_n C.1 C.2.1 (kd kX8_tellLeaving_1 47 rfl) rfl (lv_at hl 1 rfl) ?_
  refine fl_get (j := 28) (v := .ref (Γ.1 186)) C hP rfl (Nat.le_of_ble_eq_true rfl) rfl inX8 (Nat.le_of_ble_eq_true rfl) tw_890 rfl (kd kX8_tellLeaving_1 48 rfl) ?_
  refine lv_iload C.1 C.2.1 (kd kX8_tellLeaving_1 49 rfl) (lv_at hl 5 rfl) ?_
  refine lv_dup2_11 C.1 C.2.1 (kd kX8_tellLeaving_1 50 rfl) rfl rfl ?_
  obtain ⟨hq, hf⟩ := fb_some hf
  refine fl_iald C hP rfl hq (kd kX8_tellLeaving_1 51 rfl) ?_
  refine lv_iconst (v := (1 : Int32)) C.1 C.2.1 (kd kX8_tellLeaving_1 52 rfl) (by decide) ?_
  refine lv_iadd C.1 C.2.1 (kd kX8_tellLeaving_1 53 rfl) ?_
  obtain ⟨hq, hf⟩ := fb_some hf
  obtain ⟨σ3, eσ3, hf⟩ := fL_some hf
  refine fl_iast C hP hS rfl hq (kd kX8_tellLeaving_1 54 rfl) (fun H locs hP hS => ?_)
  have hP : fH Γ σ3 H := by rw [eσ3]; exact hP
  exact w_X8_tellLeaving_b195 C hK48 hK57 hK74 (v1) (v2) (v3) (v4) (v5) (s0) σ3 H locs ls hf hP hS (lv_sub hl [1, 2, 3, 4, 5, 6, 0] rfl)
def f_X8_tellLeaving_b136 (K48 : Int32 → Int32 → Int32 → fS → Option (fS)) (K57 : Int32 → Int32 → Int32 → Int32 → fS → Option (fS)) (K74 : Int32 → Int32 → Int32 → Int32 → Int32 → Int32 → fS → Option (fS)) (v1 : Int32) (v2 : Int32) (v3 : Int32) (v4 : Int32) (v5 : Int32) (s0 : Int32) (s1 : Int32) (σ : fS) : Option (fS) := fb (s1 + s0) 1152 (fcall (f_X8_vehicleOf (σ 183 (s1 + s0).toNatClampNeg) (2 : Int32) σ) (fun r1_ σ1 => (if r1_ = v3 then f_X8_tellLeaving_b156 K48 K57 K74 (v1) (v2) (v3) (v4) (v5) ((σ 183 (s1 + s0).toNatClampNeg)) ((1 : Int32)) σ1 else f_X8_tellLeaving_b156 K48 K57 K74 (v1) (v2) (v3) (v4) (v5) ((σ 183 (s1 + s0).toNatClampNeg)) ((0 : Int32)) σ1)))
set_option maxRecDepth 100000 in
set_option maxHeartbeats 4000000 in
theorem w_X8_tellLeaving_b136 {σ' : fS} {K48 : Int32 → Int32 → Int32 → fS → Option (fS)} {K57 : Int32 → Int32 → Int32 → Int32 → fS → Option (fS)} {K74 : Int32 → Int32 → Int32 → Int32 → Int32 → Int32 → fS → Option (fS)}  (C : fC Γ p s m args meth c cX8_tellLeaving none RX8 8) (hK48 : ∀ (v1 : Int32) (v2 : Int32) (v3 : Int32) (σ : fS) (H : Heap) (locs : List Loc) (ls : Array Slot), K48 v1 v2 v3 σ = some σ' → fH Γ σ H → va_S (fAd Γ) s.heap H locs → lv_has ls 8 [(0, .ref (Γ.1 164)), (1, .int v1), (2, .int v2), (3, .int v3)] → W p l e ({ frames := 1, cells := 0, slots := 0, locals := 22 } : Room) s m args below meth c H locs 0 0 (MQ below (fQv Γ σ') args s 0 0 (fAd Γ)) (F0 m 48 ls [])) (hK57 : ∀ (v1 : Int32) (v2 : Int32) (v3 : Int32) (v4 : Int32) (σ : fS) (H : Heap) (locs : List Loc) (ls : Array Slot), K57 v1 v2 v3 v4 σ = some σ' → fH Γ σ H → va_S (fAd Γ) s.heap H locs → lv_has ls 8 [(0, .ref (Γ.1 164)), (1, .int v1), (2, .int v2), (3, .int v3), (4, .int v4)] → W p l e ({ frames := 1, cells := 0, slots := 0, locals := 22 } : Room) s m args below meth c H locs 0 0 (MQ below (fQv Γ σ') args s 0 0 (fAd Γ)) (F0 m 57 ls [])) (hK74 : ∀ (v1 : Int32) (v2 : Int32) (v3 : Int32) (v4 : Int32) (v5 : Int32) (v6 : Int32) (σ : fS) (H : Heap) (locs : List Loc) (ls : Array Slot), K74 v1 v2 v3 v4 v5 v6 σ = some σ' → fH Γ σ H → va_S (fAd Γ) s.heap H locs → lv_has ls 8 [(0, .ref (Γ.1 164)), (1, .int v1), (2, .int v2), (3, .int v3), (4, .int v4), (5, .int v5), (6, .int v6)] → W p l e ({ frames := 1, cells := 0, slots := 0, locals := 22 } : Room) s m args below meth c H locs 0 0 (MQ below (fQv Γ σ') args s 0 0 (fAd Γ)) (F0 m 74 ls [])) : ∀ (v1 : Int32) (v2 : Int32) (v3 : Int32) (v4 : Int32) (v5 : Int32) (s0 : Int32) (s1 : Int32) (σ : fS) (H : Heap) (locs : List Loc) (ls : Array Slot), f_X8_tellLeaving_b136 K48 K57 K74 v1 v2 v3 v4 v5 s0 s1 σ = some σ' → fH Γ σ H → va_S (fAd Γ) s.heap H locs → lv_has ls 8 [(0, .ref (Γ.1 164)), (1, .int v1), (2, .int v2), (3, .int v3), (4, .int v4), (5, .int v5)] → W p l e ({ frames := 1, cells := 0, slots := 0, locals := 22 } : Room) s m args below meth c H locs 0 0 (MQ below (fQv Γ σ') args s 0 0 (fAd Γ)) (F0 m 136 ls [.int s0, .int s1, .ref (Γ.1 183)]) := by
  intro v1 v2 v3 v4 v5 s0 s1 σ H locs ls hf hP hS hl
  unfold f_X8_tellLeaving_b136 at hf
  refine lv_iadd C.1 C.2.1 (kd kX8_tellLeaving_1 20 rfl) ?_
  obtain ⟨hq, hf⟩ := fb_some hf
  refine fl_iald C hP rfl hq (kd kX8_tellLeaving_1 21 rfl) ?_
  refine lv_istore (lv' := [(7, .int (σ 183 (s1 + s0).toNatClampNeg)), (0, .ref (Γ.1 164)), (1, .int v1), (2, .int v2), (3, .int v3), (4, .int v4), (5, .int v5)]) C.1 C.2.1 (kd kX8_tellLeaving_1 22 rfl) hl (Nat.le_of_ble_eq_true rfl) rfl (fun ls hl => ?_)
  refine lv_aload_n C.1 C.2.1 (kd kX8_tellLeaving_1 23 rfl) rfl (lv_at hl 1 rfl) ?_
  refine lv_iload C.1 C.2.1 (kd kX8_tellLeaving_1 24 rfl) (lv_at hl 0 rfl) ?_
  refine lv_iconst (v := (2 : Int32)) C.1 C.2.1 (kd kX8_tellLeaving_1 25 rfl) (by decide) ?_
  obtain ⟨r1_, σ1, hσ1, hf⟩ := fcall_some hf
  refine fl_i hS (fl_runV (As := [.int (σ 183 (s1 + s0).toNatClampNeg), .int (2 : Int32)]) (rest := []) C hP rfl (Nat.le_of_ble_eq_true rfl) rfl (m_X8_vehicleOf C.2.2.2.2.2.2.2.2 l  hσ1) (fgV tw_1163 tw_1165 tw_54 tw_75 tw_1166) hd_X8_vehicleOf ⟨rfl, rfl, Nat.le_of_ble_eq_true rfl, Nat.le_of_ble_eq_true rfl⟩ rfl hl.1 rfl (Nat.le_of_ble_eq_true rfl) (kd kX8_tellLeaving_1 26 rfl)) (fun H locs hP hS => ?_)
  refine lv_iload_n C.1 C.2.1 (kd kX8_tellLeaving_1 27 rfl) rfl (lv_at hl 4 rfl) ?_
  refine lv_icmp_ne (tgt := 155) C.1 C.2.1 (kd kX8_tellLeaving_1 28 rfl) (by decide) (fun q => ?_) (fun q => ?_)
  · have hf := fif_neg q hf
    refine lv_iconst (v := (0 : Int32)) C.1 C.2.1 (kd kX8_tellLeaving_1 31 rfl) (by decide) ?_
    exact w_X8_tellLeaving_b156 C hK48 hK57 hK74 (v1) (v2) (v3) (v4) (v5) ((σ 183 (s1 + s0).toNatClampNeg)) ((0 : Int32)) σ1 H locs ls hf hP hS (lv_sub hl [1, 2, 3, 4, 5, 6, 0] rfl)
  have hf := fif_pos q hf
  refine lv_iconst (v := (1 : Int32)) C.1 C.2.1 (kd kX8_tellLeaving_1 29 rfl) (by decide) ?_
  refine lv_goto (tgt := 156) C.1 C.2.1 (kd kX8_tellLeaving_1 30 rfl) (by decide) ?_
  exact w_X8_tellLeaving_b156 C hK48 hK57 hK74 (v1) (v2) (v3) (v4) (v5) ((σ 183 (s1 + s0).toNatClampNeg)) ((1 : Int32)) σ1 H locs ls hf hP hS (lv_sub hl [1, 2, 3, 4, 5, 6, 0] rfl)
def f_X8_tellLeaving_b198 (K48 : Int32 → Int32 → Int32 → fS → Option (fS)) (K57 : Int32 → Int32 → Int32 → Int32 → fS → Option (fS)) (v1 : Int32) (v2 : Int32) (v3 : Int32) (v4 : Int32) (σ : fS) : Option (fS) := K57 (v1) (v2) (v3) ((v4 + (1 : Int32))) σ
set_option maxRecDepth 100000 in
set_option maxHeartbeats 4000000 in
theorem w_X8_tellLeaving_b198 {σ' : fS} {K48 : Int32 → Int32 → Int32 → fS → Option (fS)} {K57 : Int32 → Int32 → Int32 → Int32 → fS → Option (fS)}  (C : fC Γ p s m args meth c cX8_tellLeaving none RX8 8) (hK48 : ∀ (v1 : Int32) (v2 : Int32) (v3 : Int32) (σ : fS) (H : Heap) (locs : List Loc) (ls : Array Slot), K48 v1 v2 v3 σ = some σ' → fH Γ σ H → va_S (fAd Γ) s.heap H locs → lv_has ls 8 [(0, .ref (Γ.1 164)), (1, .int v1), (2, .int v2), (3, .int v3)] → W p l e ({ frames := 1, cells := 0, slots := 0, locals := 22 } : Room) s m args below meth c H locs 0 0 (MQ below (fQv Γ σ') args s 0 0 (fAd Γ)) (F0 m 48 ls [])) (hK57 : ∀ (v1 : Int32) (v2 : Int32) (v3 : Int32) (v4 : Int32) (σ : fS) (H : Heap) (locs : List Loc) (ls : Array Slot), K57 v1 v2 v3 v4 σ = some σ' → fH Γ σ H → va_S (fAd Γ) s.heap H locs → lv_has ls 8 [(0, .ref (Γ.1 164)), (1, .int v1), (2, .int v2), (3, .int v3), (4, .int v4)] → W p l e ({ frames := 1, cells := 0, slots := 0, locals := 22 } : Room) s m args below meth c H locs 0 0 (MQ below (fQv Γ σ') args s 0 0 (fAd Γ)) (F0 m 57 ls [])) : ∀ (v1 : Int32) (v2 : Int32) (v3 : Int32) (v4 : Int32) (σ : fS) (H : Heap) (locs : List Loc) (ls : Array Slot), f_X8_tellLeaving_b198 K48 K57 v1 v2 v3 v4 σ = some σ' → fH Γ σ H → va_S (fAd Γ) s.heap H locs → lv_has ls 8 [(0, .ref (Γ.1 164)), (1, .int v1), (2, .int v2), (3, .int v3), (4, .int v4)] → W p l e ({ frames := 1, cells := 0, slots := 0, locals := 22 } : Room) s m args below meth c H locs 0 0 (MQ below (fQv Γ σ') args s 0 0 (fAd Γ)) (F0 m 198 ls []) := by
  intro v1 v2 v3 v4 σ H locs ls hf hP hS hl
  unfold f_X8_tellLeaving_b198 at hf
  refine lv_iinc (v := (v4 + (1 : Int32))) (lv' := [(4, .int (v4 + (1 : Int32))), (0, .ref (Γ.1 164)), (1, .int v1), (2, .int v2), (3, .int v3)]) C.1 C.2.1 (kd kX8_tellLeaving_1 56 rfl) hl (k := 4) rfl rfl (Nat.le_of_ble_eq_true rfl) rfl (fun ls hl => ?_)
  refine lv_goto (tgt := 57) C.1 C.2.1 (kd kX8_tellLeaving_1 57 rfl) (by decide) ?_
  exact hK57 (v1) (v2) (v3) ((v4 + (1 : Int32))) σ H locs ls hf hP hS (lv_sub hl [1, 2, 3, 4, 0] rfl)
def f_X8_tellLeaving_b74 (K48 : Int32 → Int32 → Int32 → fS → Option (fS)) (K57 : Int32 → Int32 → Int32 → Int32 → fS → Option (fS)) : Nat → Int32 → Int32 → Int32 → Int32 → Int32 → Int32 → fS → Option (fS)
  | 0, _, _, _, _, _, _, _ => none
  | n_ + 1, v1, v2, v3, v4, v5, v6, σ => (if v6 = 0 then f_X8_tellLeaving_b198 K48 K57 (v1) (v2) (v3) (v4) σ else fb v4 4 (fb v5 48 ((if (σ 182 v5.toNatClampNeg) ≤ (σ 186 v4.toNatClampNeg) then f_X8_tellLeaving_b198 K48 K57 (v1) (v2) (v3) (v4) σ else (if v2 = 0 then fb v4 4 (f_X8_tellLeaving_b136 K48 K57 (fun v1 v2 v3 v4 v5 v6 σ => f_X8_tellLeaving_b74 K48 K57 n_ v1 v2 v3 v4 v5 v6 σ) (v1) (v2) (v3) (v4) (v5) ((σ 186 v4.toNatClampNeg)) (((24 : Int32) * v5)) σ) else fb v5 48 (fb v4 4 (f_X8_tellLeaving_b136 K48 K57 (fun v1 v2 v3 v4 v5 v6 σ => f_X8_tellLeaving_b74 K48 K57 n_ v1 v2 v3 v4 v5 v6 σ) (v1) (v2) (v3) (v4) (v5) ((((σ 182 v5.toNatClampNeg) - (1 : Int32)) - (σ 186 v4.toNatClampNeg))) (((24 : Int32) * v5)) σ)))))))
set_option maxRecDepth 100000 in
set_option maxHeartbeats 4000000 in
theorem w_X8_tellLeaving_b74 {σ' : fS} {K48 : Int32 → Int32 → Int32 → fS → Option (fS)} {K57 : Int32 → Int32 → Int32 → Int32 → fS → Option (fS)}  (C : fC Γ p s m args meth c cX8_tellLeaving none RX8 8) (hK48 : ∀ (v1 : Int32) (v2 : Int32) (v3 : Int32) (σ : fS) (H : Heap) (locs : List Loc) (ls : Array Slot), K48 v1 v2 v3 σ = some σ' → fH Γ σ H → va_S (fAd Γ) s.heap H locs → lv_has ls 8 [(0, .ref (Γ.1 164)), (1, .int v1), (2, .int v2), (3, .int v3)] → W p l e ({ frames := 1, cells := 0, slots := 0, locals := 22 } : Room) s m args below meth c H locs 0 0 (MQ below (fQv Γ σ') args s 0 0 (fAd Γ)) (F0 m 48 ls [])) (hK57 : ∀ (v1 : Int32) (v2 : Int32) (v3 : Int32) (v4 : Int32) (σ : fS) (H : Heap) (locs : List Loc) (ls : Array Slot), K57 v1 v2 v3 v4 σ = some σ' → fH Γ σ H → va_S (fAd Γ) s.heap H locs → lv_has ls 8 [(0, .ref (Γ.1 164)), (1, .int v1), (2, .int v2), (3, .int v3), (4, .int v4)] → W p l e ({ frames := 1, cells := 0, slots := 0, locals := 22 } : Room) s m args below meth c H locs 0 0 (MQ below (fQv Γ σ') args s 0 0 (fAd Γ)) (F0 m 57 ls [])) : ∀ (n_ : Nat) (v1 : Int32) (v2 : Int32) (v3 : Int32) (v4 : Int32) (v5 : Int32) (v6 : Int32) (σ : fS) (H : Heap) (locs : List Loc) (ls : Array Slot), f_X8_tellLeaving_b74 K48 K57 n_ v1 v2 v3 v4 v5 v6 σ = some σ' → fH Γ σ H → va_S (fAd Γ) s.heap H locs → lv_has ls 8 [(0, .ref (Γ.1 164)), (1, .int v1), (2, .int v2), (3, .int v3), (4, .int v4), (5, .int v5), (6, .int v6)] → W p l e ({ frames := 1, cells := 0, slots := 0, locals := 22 } : Room) s m args below meth c H locs 0 0 (MQ below (fQv Γ σ') args s 0 0 (fAd Γ)) (F0 m 74 ls []) := by
  intro n_
  induction n_ with
  | zero =>
    intro v1 v2 v3 v4 v5 v6 σ H locs ls hf
    cases hf
  | succ n_ ih =>
    intro v1 v2 v3 v4 v5 v6 σ H locs ls hf hP hS hl
    have hf : (if v6 = 0 then f_X8_tellLeaving_b198 K48 K57 (v1) (v2) (v3) (v4) σ else fb v4 4 (fb v5 48 ((if (σ 182 v5.toNatClampNeg) ≤ (σ 186 v4.toNatClampNeg) then f_X8_tellLeaving_b198 K48 K57 (v1) (v2) (v3) (v4) σ else (if v2 = 0 then fb v4 4 (f_X8_tellLeaving_b136 K48 K57 (fun v1 v2 v3 v4 v5 v6 σ => f_X8_tellLeaving_b74 K48 K57 n_ v1 v2 v3 v4 v5 v6 σ) (v1) (v2) (v3) (v4) (v5) ((σ 186 v4.toNatClampNeg)) (((24 : Int32) * v5)) σ) else fb v5 48 (fb v4 4 (f_X8_tellLeaving_b136 K48 K57 (fun v1 v2 v3 v4 v5 v6 σ => f_X8_tellLeaving_b74 K48 K57 n_ v1 v2 v3 v4 v5 v6 σ) (v1) (v2) (v3) (v4) (v5) ((((σ 182 v5.toNatClampNeg) - (1 : Int32)) - (σ 186 v4.toNatClampNeg))) (((24 : Int32) * v5)) σ))))))) = some σ' := hf
    have hK74 := ih
    refine lv_iload C.1 C.2.1 (kd kX8_tellLeaving_0 46 rfl) (lv_at hl 6 rfl) ?_
    refine lv_if_eq (tgt := 198) C.1 C.2.1 (kd kX8_tellLeaving_0 47 rfl) (by decide) (fun q => ?_) (fun q => ?_)
    · have hf := fif_pos q hf
      exact w_X8_tellLeaving_b198 C hK48 hK57 (v1) (v2) (v3) (v4) σ H locs ls hf hP hS (lv_sub hl [0, 1, 2, 3, 4] rfl)
    have hf := fif_neg q hf
    refine lv_aload_n C.1 C.2.1 (kd kX8_tellLeaving_0 48 rfl) rfl (lv_at hl 0 rfl) ?_
    refine fl_get (j := 28) (v := .ref (Γ.1 186)) C hP rfl (Nat.le_of_ble_eq_true rfl) rfl inX8 (Nat.le_of_ble_eq_true rfl) tw_890 rfl (kd kX8_tellLeaving_0 49 rfl) ?_
    refine lv_iload C.1 C.2.1 (kd kX8_tellLeaving_0 50 rfl) (lv_at hl 4 rfl) ?_
    obtain ⟨hq, hf⟩ := fb_some hf
    refine fl_iald C hP rfl hq (kd kX8_tellLeaving_0 51 rfl) ?_
    refine lv_aload_n C.1 C.2.1 (kd kX8_tellLeaving_0 52 rfl) rfl (lv_at hl 0 rfl) ?_
    refine fl_get (j := 23) (v := .ref (Γ.1 182)) C hP rfl (Nat.le_of_ble_eq_true rfl) rfl inX8 (Nat.le_of_ble_eq_true rfl) tw_885 rfl (kd kX8_tellLeaving_0 53 rfl) ?_
    refine lv_iload C.1 C.2.1 (kd kX8_tellLeaving_0 54 rfl) (lv_at hl 5 rfl) ?_
    obtain ⟨hq, hf⟩ := fb_some hf
    refine fl_iald C hP rfl hq (kd kX8_tellLeaving_0 55 rfl) ?_
    refine lv_icmp_ge (tgt := 198) C.1 C.2.1 (kd kX8_tellLeaving_0 56 rfl) (by decide) (fun q => ?_) (fun q => ?_)
    · have hf := fif_pos q hf
      exact w_X8_tellLeaving_b198 C hK48 hK57 (v1) (v2) (v3) (v4) σ H locs ls hf hP hS (lv_sub hl [0, 1, 2, 3, 4] rfl)
    have hf := fif_neg q hf
    refine lv_aload_n C.1 C.2.1 (kd kX8_tellLeaving_0 57 rfl) rfl (lv_at hl 0 rfl) ?_
    refine fl_get (j := 24) (v := .ref (Γ.1 183)) C hP rfl (Nat.le_of_ble_eq_true rfl) rfl inX8 (Nat.le_of_ble_eq_true rfl) tw_886 rfl (kd kX8_tellLeaving_0 58 rfl) ?_
    refine lv_bipush (v := (24 : Int32)) C.1 C.2.1 (kd kX8_tellLeaving_0 59 rfl) (by decide) ?_
    refine lv_iload C.1 C.2.1 (kd kX8_tellLeaving_1 0 rfl) (lv_at hl 5 rfl) ?_
    refine lv_imul C.1 C.2.1 (kd kX8_tellLeaving_1 1 rfl) ?_
    refine lv_iload_n C.1 C.2.1 (kd kX8_tellLeaving_1 2 rfl) rfl (lv_at hl 2 rfl) ?_
    refine lv_if_eq (tgt := 129) C.1 C.2.1 (kd kX8_tellLeaving_1 3 rfl) (by decide) (fun q => ?_) (fun q => ?_)
    · have hf := fif_pos q hf
      refine lv_aload_n C.1 C.2.1 (kd kX8_tellLeaving_1 16 rfl) rfl (lv_at hl 0 rfl) ?_
      refine fl_get (j := 28) (v := .ref (Γ.1 186)) C hP rfl (Nat.le_of_ble_eq_true rfl) rfl inX8 (Nat.le_of_ble_eq_true rfl) tw_890 rfl (kd kX8_tellLeaving_1 17 rfl) ?_
      refine lv_iload C.1 C.2.1 (kd kX8_tellLeaving_1 18 rfl) (lv_at hl 4 rfl) ?_
      obtain ⟨hq, hf⟩ := fb_some hf
      refine fl_iald C hP rfl hq (kd kX8_tellLeaving_1 19 rfl) ?_
      exact w_X8_tellLeaving_b136 C hK48 hK57 hK74 (v1) (v2) (v3) (v4) (v5) ((σ 186 v4.toNatClampNeg)) (((24 : Int32) * v5)) σ H locs ls hf hP hS (lv_sub hl [0, 1, 2, 3, 4, 5] rfl)
    have hf := fif_neg q hf
    refine lv_aload_n C.1 C.2.1 (kd kX8_tellLeaving_1 4 rfl) rfl (lv_at hl 0 rfl) ?_
    refine fl_get (j := 23) (v := .ref (Γ.1 182)) C hP rfl (Nat.le_of_ble_eq_true rfl) rfl inX8 (Nat.le_of_ble_eq_true rfl) tw_885 rfl (kd kX8_tellLeaving_1 5 rfl) ?_
    refine lv_iload C.1 C.2.1 (kd kX8_tellLeaving_1 6 rfl) (lv_at hl 5 rfl) ?_
    obtain ⟨hq, hf⟩ := fb_some hf
    refine fl_iald C hP rfl hq (kd kX8_tellLeaving_1 7 rfl) ?_
    refine lv_iconst (v := (1 : Int32)) C.1 C.2.1 (kd kX8_tellLeaving_1 8 rfl) (by decide) ?_
    refine lv_isub C.1 C.2.1 (kd kX8_tellLeaving_1 9 rfl) ?_
    refine lv_aload_n C.1 C.2.1 (kd kX8_tellLeaving_1 10 rfl) rfl (lv_at hl 0 rfl) ?_
    refine fl_get (j := 28) (v := .ref (Γ.1 186)) C hP rfl (Nat.le_of_ble_eq_true rfl) rfl inX8 (Nat.le_of_ble_eq_true rfl) tw_890 rfl (kd kX8_tellLeaving_1 11 rfl) ?_
    refine lv_iload C.1 C.2.1 (kd kX8_tellLeaving_1 12 rfl) (lv_at hl 4 rfl) ?_
    obtain ⟨hq, hf⟩ := fb_some hf
    refine fl_iald C hP rfl hq (kd kX8_tellLeaving_1 13 rfl) ?_
    refine lv_isub C.1 C.2.1 (kd kX8_tellLeaving_1 14 rfl) ?_
    refine lv_goto (tgt := 136) C.1 C.2.1 (kd kX8_tellLeaving_1 15 rfl) (by decide) ?_
    exact w_X8_tellLeaving_b136 C hK48 hK57 hK74 (v1) (v2) (v3) (v4) (v5) ((((σ 182 v5.toNatClampNeg) - (1 : Int32)) - (σ 186 v4.toNatClampNeg))) (((24 : Int32) * v5)) σ H locs ls hf hP hS (lv_sub hl [0, 1, 2, 3, 4, 5] rfl)
def f_X8_tellLeaving_b57 (K48 : Int32 → Int32 → Int32 → fS → Option (fS)) : Nat → Int32 → Int32 → Int32 → Int32 → fS → Option (fS)
  | 0, _, _, _, _, _ => none
  | n_ + 1, v1, v2, v3, v4, σ => (if (4 : Int32) ≤ v4 then K48 (v1) (v2) ((v3 + (1 : Int32))) σ else f_X8_tellLeaving_b74 K48 (fun v1 v2 v3 v4 σ => f_X8_tellLeaving_b57 K48 n_ v1 v2 v3 v4 σ) fN (v1) (v2) (v3) (v4) ((((4 : Int32) * v1) + v4)) ((1 : Int32)) σ)
set_option maxRecDepth 100000 in
set_option maxHeartbeats 4000000 in
theorem w_X8_tellLeaving_b57 {σ' : fS} {K48 : Int32 → Int32 → Int32 → fS → Option (fS)}  (C : fC Γ p s m args meth c cX8_tellLeaving none RX8 8) (hK48 : ∀ (v1 : Int32) (v2 : Int32) (v3 : Int32) (σ : fS) (H : Heap) (locs : List Loc) (ls : Array Slot), K48 v1 v2 v3 σ = some σ' → fH Γ σ H → va_S (fAd Γ) s.heap H locs → lv_has ls 8 [(0, .ref (Γ.1 164)), (1, .int v1), (2, .int v2), (3, .int v3)] → W p l e ({ frames := 1, cells := 0, slots := 0, locals := 22 } : Room) s m args below meth c H locs 0 0 (MQ below (fQv Γ σ') args s 0 0 (fAd Γ)) (F0 m 48 ls [])) : ∀ (n_ : Nat) (v1 : Int32) (v2 : Int32) (v3 : Int32) (v4 : Int32) (σ : fS) (H : Heap) (locs : List Loc) (ls : Array Slot), f_X8_tellLeaving_b57 K48 n_ v1 v2 v3 v4 σ = some σ' → fH Γ σ H → va_S (fAd Γ) s.heap H locs → lv_has ls 8 [(0, .ref (Γ.1 164)), (1, .int v1), (2, .int v2), (3, .int v3), (4, .int v4)] → W p l e ({ frames := 1, cells := 0, slots := 0, locals := 22 } : Room) s m args below meth c H locs 0 0 (MQ below (fQv Γ σ') args s 0 0 (fAd Γ)) (F0 m 57 ls []) := by
  intro n_
  induction n_ with
  | zero =>
    intro v1 v2 v3 v4 σ H locs ls hf
    cases hf
  | succ n_ ih =>
    intro v1 v2 v3 v4 σ H locs ls hf hP hS hl
    have hf : (if (4 : Int32) ≤ v4 then K48 (v1) (v2) ((v3 + (1 : Int32))) σ else f_X8_tellLeaving_b74 K48 (fun v1 v2 v3 v4 σ => f_X8_tellLeaving_b57 K48 n_ v1 v2 v3 v4 σ) fN (v1) (v2) (v3) (v4) ((((4 : Int32) * v1) + v4)) ((1 : Int32)) σ) = some σ' := hf
    have hK57 := ih
    refine lv_iload C.1 C.2.1 (kd kX8_tellLeaving_0 35 rfl) (lv_at hl 4 rfl) ?_
    refine lv_iconst (v := (4 : Int32)) C.1 C.2.1 (kd kX8_tellLeaving_0 36 rfl) (by decide) ?_
    refine lv_icmp_ge (tgt := 204) C.1 C.2.1 (kd kX8_tellLeaving_0 37 rfl) (by decide) (fun q => ?_) (fun q => ?_)
    · have hf := fif_pos q hf
      refine lv_iinc (v := (v3 + (1 : Int32))) (lv' := [(3, .int (v3 + (1 : Int32))), (0, .ref (Γ.1 164)), (1, .int v1), (2, .int v2), (4, .int v4)]) C.1 C.2.1 (kd kX8_tellLeaving_1 58 rfl) hl (k := 3) rfl rfl (Nat.le_of_ble_eq_true rfl) rfl (fun ls hl => ?_)
      refine lv_goto (tgt := 48) C.1 C.2.1 (kd kX8_tellLeaving_1 59 rfl) (by decide) ?_
      exact hK48 (v1) (v2) ((v3 + (1 : Int32))) σ H locs ls hf hP hS (lv_sub hl [1, 2, 3, 0] rfl)
    have hf := fif_neg q hf
    refine lv_iconst (v := (4 : Int32)) C.1 C.2.1 (kd kX8_tellLeaving_0 38 rfl) (by decide) ?_
    refine lv_iload_n C.1 C.2.1 (kd kX8_tellLeaving_0 39 rfl) rfl (lv_at hl 1 rfl) ?_
    refine lv_imul C.1 C.2.1 (kd kX8_tellLeaving_0 40 rfl) ?_
    refine lv_iload C.1 C.2.1 (kd kX8_tellLeaving_0 41 rfl) (lv_at hl 4 rfl) ?_
    refine lv_iadd C.1 C.2.1 (kd kX8_tellLeaving_0 42 rfl) ?_
    refine lv_istore (lv' := [(5, .int (((4 : Int32) * v1) + v4)), (0, .ref (Γ.1 164)), (1, .int v1), (2, .int v2), (3, .int v3), (4, .int v4)]) C.1 C.2.1 (kd kX8_tellLeaving_0 43 rfl) hl (Nat.le_of_ble_eq_true rfl) rfl (fun ls hl => ?_)
    refine lv_iconst (v := (1 : Int32)) C.1 C.2.1 (kd kX8_tellLeaving_0 44 rfl) (by decide) ?_
    refine lv_istore (lv' := [(6, .int (1 : Int32)), (5, .int (((4 : Int32) * v1) + v4)), (0, .ref (Γ.1 164)), (1, .int v1), (2, .int v2), (3, .int v3), (4, .int v4)]) C.1 C.2.1 (kd kX8_tellLeaving_0 45 rfl) hl (Nat.le_of_ble_eq_true rfl) rfl (fun ls hl => ?_)
    exact w_X8_tellLeaving_b74 C hK48 hK57 fN (v1) (v2) (v3) (v4) ((((4 : Int32) * v1) + v4)) ((1 : Int32)) σ H locs ls hf hP hS (lv_sub hl [2, 3, 4, 5, 6, 1, 0] rfl)
def f_X8_tellLeaving_b48 : Nat → Int32 → Int32 → Int32 → fS → Option (fS)
  | 0, _, _, _, _ => none
  | n_ + 1, v1, v2, v3, σ => (if (6 : Int32) ≤ v3 then some σ else f_X8_tellLeaving_b57 (fun v1 v2 v3 σ => f_X8_tellLeaving_b48 n_ v1 v2 v3 σ) fN (v1) (v2) (v3) ((0 : Int32)) σ)
set_option maxRecDepth 100000 in
set_option maxHeartbeats 4000000 in
theorem w_X8_tellLeaving_b48 {σ' : fS}  (C : fC Γ p s m args meth c cX8_tellLeaving none RX8 8) : ∀ (n_ : Nat) (v1 : Int32) (v2 : Int32) (v3 : Int32) (σ : fS) (H : Heap) (locs : List Loc) (ls : Array Slot), f_X8_tellLeaving_b48 n_ v1 v2 v3 σ = some σ' → fH Γ σ H → va_S (fAd Γ) s.heap H locs → lv_has ls 8 [(0, .ref (Γ.1 164)), (1, .int v1), (2, .int v2), (3, .int v3)] → W p l e ({ frames := 1, cells := 0, slots := 0, locals := 22 } : Room) s m args below meth c H locs 0 0 (MQ below (fQv Γ σ') args s 0 0 (fAd Γ)) (F0 m 48 ls []) := by
  intro n_
  induction n_ with
  | zero =>
    intro v1 v2 v3 σ H locs ls hf
    cases hf
  | succ n_ ih =>
    intro v1 v2 v3 σ H locs ls hf hP hS hl
    have hf : (if (6 : Int32) ≤ v3 then some σ else f_X8_tellLeaving_b57 (fun v1 v2 v3 σ => f_X8_tellLeaving_b48 n_ v1 v2 v3 σ) fN (v1) (v2) (v3) ((0 : Int32)) σ) = some σ' := hf
    have hK48 := ih
    refine lv_iload_n C.1 C.2.1 (kd kX8_tellLeaving_0 30 rfl) rfl (lv_at hl 3 rfl) ?_
    refine lv_bipush (v := (6 : Int32)) C.1 C.2.1 (kd kX8_tellLeaving_0 31 rfl) (by decide) ?_
    refine lv_icmp_ge (tgt := 210) C.1 C.2.1 (kd kX8_tellLeaving_0 32 rfl) (by decide) (fun q => ?_) (fun q => ?_)
    · have hf := fif_pos q hf
      exact fl_vret C hP hS hf (kd kX8_tellLeaving_2 0 rfl)
    have hf := fif_neg q hf
    refine lv_iconst (v := (0 : Int32)) C.1 C.2.1 (kd kX8_tellLeaving_0 33 rfl) (by decide) ?_
    refine lv_istore (lv' := [(4, .int (0 : Int32)), (0, .ref (Γ.1 164)), (1, .int v1), (2, .int v2), (3, .int v3)]) C.1 C.2.1 (kd kX8_tellLeaving_0 34 rfl) hl (Nat.le_of_ble_eq_true rfl) rfl (fun ls hl => ?_)
    exact w_X8_tellLeaving_b57 C hK48 fN (v1) (v2) (v3) ((0 : Int32)) σ H locs ls hf hP hS (lv_sub hl [1, 2, 3, 4, 0] rfl)
def f_X8_tellLeaving_b28 : Nat → Int32 → Int32 → Int32 → fS → Option (fS)
  | 0, _, _, _, _ => none
  | n_ + 1, v1, v2, v3, σ => (if (4 : Int32) ≤ v3 then f_X8_tellLeaving_b48 fN (v1) (v2) ((0 : Int32)) σ else fb v3 4 (fL (fu σ 186 v3.toNatClampNeg (0 : Int32)) (fun σ1 => (fun v1 v2 v3 σ => f_X8_tellLeaving_b28 n_ v1 v2 v3 σ) (v1) (v2) ((v3 + (1 : Int32))) σ1)))
set_option maxRecDepth 100000 in
set_option maxHeartbeats 4000000 in
theorem w_X8_tellLeaving_b28 {σ' : fS}  (C : fC Γ p s m args meth c cX8_tellLeaving none RX8 8) : ∀ (n_ : Nat) (v1 : Int32) (v2 : Int32) (v3 : Int32) (σ : fS) (H : Heap) (locs : List Loc) (ls : Array Slot), f_X8_tellLeaving_b28 n_ v1 v2 v3 σ = some σ' → fH Γ σ H → va_S (fAd Γ) s.heap H locs → lv_has ls 8 [(0, .ref (Γ.1 164)), (1, .int v1), (2, .int v2), (3, .int v3)] → W p l e ({ frames := 1, cells := 0, slots := 0, locals := 22 } : Room) s m args below meth c H locs 0 0 (MQ below (fQv Γ σ') args s 0 0 (fAd Γ)) (F0 m 28 ls []) := by
  intro n_
  induction n_ with
  | zero =>
    intro v1 v2 v3 σ H locs ls hf
    cases hf
  | succ n_ ih =>
    intro v1 v2 v3 σ H locs ls hf hP hS hl
    have hf : (if (4 : Int32) ≤ v3 then f_X8_tellLeaving_b48 fN (v1) (v2) ((0 : Int32)) σ else fb v3 4 (fL (fu σ 186 v3.toNatClampNeg (0 : Int32)) (fun σ1 => (fun v1 v2 v3 σ => f_X8_tellLeaving_b28 n_ v1 v2 v3 σ) (v1) (v2) ((v3 + (1 : Int32))) σ1))) = some σ' := hf
    have hK28 := ih
    refine lv_iload_n C.1 C.2.1 (kd kX8_tellLeaving_0 18 rfl) rfl (lv_at hl 3 rfl) ?_
    refine lv_iconst (v := (4 : Int32)) C.1 C.2.1 (kd kX8_tellLeaving_0 19 rfl) (by decide) ?_
    refine lv_icmp_ge (tgt := 46) C.1 C.2.1 (kd kX8_tellLeaving_0 20 rfl) (by decide) (fun q => ?_) (fun q => ?_)
    · have hf := fif_pos q hf
      refine lv_iconst (v := (0 : Int32)) C.1 C.2.1 (kd kX8_tellLeaving_0 28 rfl) (by decide) ?_
      refine lv_istore_n (lv' := [(3, .int (0 : Int32)), (0, .ref (Γ.1 164)), (1, .int v1), (2, .int v2)]) C.1 C.2.1 (kd kX8_tellLeaving_0 29 rfl) rfl hl (Nat.le_of_ble_eq_true rfl) rfl (fun ls hl => ?_)
      exact w_X8_tellLeaving_b48 C fN (v1) (v2) ((0 : Int32)) σ H locs ls hf hP hS (lv_sub hl [1, 2, 3, 0] rfl)
    have hf := fif_neg q hf
    refine lv_aload_n C.1 C.2.1 (kd kX8_tellLeaving_0 21 rfl) rfl (lv_at hl 0 rfl) ?_
    refine fl_get (j := 28) (v := .ref (Γ.1 186)) C hP rfl (Nat.le_of_ble_eq_true rfl) rfl inX8 (Nat.le_of_ble_eq_true rfl) tw_890 rfl (kd kX8_tellLeaving_0 22 rfl) ?_
    refine lv_iload_n C.1 C.2.1 (kd kX8_tellLeaving_0 23 rfl) rfl (lv_at hl 3 rfl) ?_
    refine lv_iconst (v := (0 : Int32)) C.1 C.2.1 (kd kX8_tellLeaving_0 24 rfl) (by decide) ?_
    obtain ⟨hq, hf⟩ := fb_some hf
    obtain ⟨σ1, eσ1, hf⟩ := fL_some hf
    refine fl_iast C hP hS rfl hq (kd kX8_tellLeaving_0 25 rfl) (fun H locs hP hS => ?_)
    have hP : fH Γ σ1 H := by rw [eσ1]; exact hP
    refine lv_iinc (v := (v3 + (1 : Int32))) (lv' := [(3, .int (v3 + (1 : Int32))), (0, .ref (Γ.1 164)), (1, .int v1), (2, .int v2)]) C.1 C.2.1 (kd kX8_tellLeaving_0 26 rfl) hl (k := 3) rfl rfl (Nat.le_of_ble_eq_true rfl) rfl (fun ls hl => ?_)
    refine lv_goto (tgt := 28) C.1 C.2.1 (kd kX8_tellLeaving_0 27 rfl) (by decide) ?_
    exact hK28 (v1) (v2) ((v3 + (1 : Int32))) σ1 H locs ls hf hP hS (lv_sub hl [1, 2, 3, 0] rfl)
def f_X8_tellLeaving_b25 (v1 : Int32) (s0 : Int32) (σ : fS) : Option (fS) := f_X8_tellLeaving_b28 fN (v1) (s0) ((0 : Int32)) σ
set_option maxRecDepth 100000 in
set_option maxHeartbeats 4000000 in
theorem w_X8_tellLeaving_b25 {σ' : fS}  (C : fC Γ p s m args meth c cX8_tellLeaving none RX8 8) : ∀ (v1 : Int32) (s0 : Int32) (σ : fS) (H : Heap) (locs : List Loc) (ls : Array Slot), f_X8_tellLeaving_b25 v1 s0 σ = some σ' → fH Γ σ H → va_S (fAd Γ) s.heap H locs → lv_has ls 8 [(0, .ref (Γ.1 164)), (1, .int v1)] → W p l e ({ frames := 1, cells := 0, slots := 0, locals := 22 } : Room) s m args below meth c H locs 0 0 (MQ below (fQv Γ σ') args s 0 0 (fAd Γ)) (F0 m 25 ls [.int s0]) := by
  intro v1 s0 σ H locs ls hf hP hS hl
  unfold f_X8_tellLeaving_b25 at hf
  refine lv_istore_n (lv' := [(2, .int s0), (0, .ref (Γ.1 164)), (1, .int v1)]) C.1 C.2.1 (kd kX8_tellLeaving_0 15 rfl) rfl hl (Nat.le_of_ble_eq_true rfl) rfl (fun ls hl => ?_)
  refine lv_iconst (v := (0 : Int32)) C.1 C.2.1 (kd kX8_tellLeaving_0 16 rfl) (by decide) ?_
  refine lv_istore_n (lv' := [(3, .int (0 : Int32)), (2, .int s0), (0, .ref (Γ.1 164)), (1, .int v1)]) C.1 C.2.1 (kd kX8_tellLeaving_0 17 rfl) rfl hl (Nat.le_of_ble_eq_true rfl) rfl (fun ls hl => ?_)
  exact w_X8_tellLeaving_b28 C fN (v1) (s0) ((0 : Int32)) σ H locs ls hf hP hS (lv_sub hl [2, 3, 1, 0] rfl)
def f_X8_tellLeaving (x1 : Int32) (σ : fS) : Option (fS) := fL (fu σ 164 27 (0 : Int32)) (fun σ1 => fcall (f_X8_of x1 (1 : Int32) σ1) (fun r2_ σ2 => fcall (f_X8_berthOf r2_ (1 : Int32) σ2) (fun r3_ σ3 => (if r3_ = (1 : Int32) then f_X8_tellLeaving_b25 (x1) ((1 : Int32)) σ3 else f_X8_tellLeaving_b25 (x1) ((0 : Int32)) σ3))))
set_option maxRecDepth 100000 in
set_option maxHeartbeats 4000000 in
theorem m_X8_tellLeaving {Γ : fGm} (hI : fI Γ) (l : Launch) {x1 : Int32} {σ : fS} {σ' : fS} (hf : f_X8_tellLeaving x1 σ = some σ') : Met l yX8_tellLeaving (.code yX8_tellLeaving cX8_tellLeaving 8 none :: lw_g) ({ frames := 1, cells := 0, slots := 0, locals := 22 } : Room) (fPre Γ [.ref (Γ.1 164), .int x1] σ) (fQv Γ σ') 0 0 (fAd Γ) := by
  refine fl_enter (own := RX8) hI (by decide +kernel) rfl (Nat.le_of_ble_eq_true rfl) ?_
  intro p e s m args below meth c ls C hl hP hS
  have hl : lv_has ls 8 [(0, .ref (Γ.1 164)), (1, .int x1)] := hl
  obtain ⟨H, hH⟩ : ∃ H, H = s.heap := ⟨_, rfl⟩
  obtain ⟨locs, hL⟩ : ∃ L : List Loc, L = [] := ⟨_, rfl⟩
  have hP : fH Γ σ H := by rw [hH]; exact hP
  have hS : va_S (fAd Γ) s.heap H locs := by rw [hH, hL]; exact hS
  suffices hw : W p l e ({ frames := 1, cells := 0, slots := 0, locals := 22 } : Room) s m args below meth c H locs 0 0 (MQ below (fQv Γ σ') args s 0 0 (fAd Γ)) (F0 m 0 ls []) by rw [hH, hL] at hw; exact hw
  unfold f_X8_tellLeaving at hf
  refine lv_aload_n C.1 C.2.1 (kd kX8_tellLeaving_0 0 rfl) rfl (lv_at hl 0 rfl) ?_
  refine lv_iconst (v := (0 : Int32)) C.1 C.2.1 (kd kX8_tellLeaving_0 1 rfl) (by decide) ?_
  obtain ⟨σ1, eσ1, hf⟩ := fL_some hf
  refine fl_put (j := 27) C hP hS rfl rfl (Nat.le_of_ble_eq_true rfl) rfl inX8 tyX8 tyX8_ok nmX8 (Nat.le_of_ble_eq_true rfl) tw_889 rfl rfl rfl (Nat.le_of_ble_eq_true rfl) (kd kX8_tellLeaving_0 2 rfl) (fun H locs hP hS => ?_)
  have hP : fH Γ σ1 H := by rw [eσ1]; exact hP
  refine lv_aload_n C.1 C.2.1 (kd kX8_tellLeaving_0 3 rfl) rfl (lv_at hl 0 rfl) ?_
  refine lv_aload_n C.1 C.2.1 (kd kX8_tellLeaving_0 4 rfl) rfl (lv_at hl 0 rfl) ?_
  refine lv_iload_n C.1 C.2.1 (kd kX8_tellLeaving_0 5 rfl) rfl (lv_at hl 1 rfl) ?_
  refine lv_iconst (v := (1 : Int32)) C.1 C.2.1 (kd kX8_tellLeaving_0 6 rfl) (by decide) ?_
  obtain ⟨r2_, σ2, hσ2, hf⟩ := fcall_some hf
  refine fl_i hS (fl_runV (As := [.int x1, .int (1 : Int32)]) (rest := [.ref (Γ.1 164)]) C hP rfl (Nat.le_of_ble_eq_true rfl) rfl (m_X8_of C.2.2.2.2.2.2.2.2 l  hσ2) (fgV tw_1118 tw_1120 tw_43 tw_75 tw_1121) hd_X8_of ⟨rfl, rfl, Nat.le_of_ble_eq_true rfl, Nat.le_of_ble_eq_true rfl⟩ rfl hl.1 rfl (Nat.le_of_ble_eq_true rfl) (kd kX8_tellLeaving_0 7 rfl)) (fun H locs hP hS => ?_)
  refine lv_iconst (v := (1 : Int32)) C.1 C.2.1 (kd kX8_tellLeaving_0 8 rfl) (by decide) ?_
  obtain ⟨r3_, σ3, hσ3, hf⟩ := fcall_some hf
  refine fl_i hS (fl_runV (As := [.int r2_, .int (1 : Int32)]) (rest := []) C hP rfl (Nat.le_of_ble_eq_true rfl) rfl (m_X8_berthOf C.2.2.2.2.2.2.2.2 l  hσ3) (fgV tw_1034 tw_1036 tw_31 tw_75 tw_1037) hd_X8_berthOf ⟨rfl, rfl, Nat.le_of_ble_eq_true rfl, Nat.le_of_ble_eq_true rfl⟩ rfl hl.1 rfl (Nat.le_of_ble_eq_true rfl) (kd kX8_tellLeaving_0 9 rfl)) (fun H locs hP hS => ?_)
  refine lv_iconst (v := (1 : Int32)) C.1 C.2.1 (kd kX8_tellLeaving_0 10 rfl) (by decide) ?_
  refine lv_icmp_ne (tgt := 24) C.1 C.2.1 (kd kX8_tellLeaving_0 11 rfl) (by decide) (fun q => ?_) (fun q => ?_)
  · have hf := fif_neg q hf
    refine lv_iconst (v := (0 : Int32)) C.1 C.2.1 (kd kX8_tellLeaving_0 14 rfl) (by decide) ?_
    exact w_X8_tellLeaving_b25 C (x1) ((0 : Int32)) σ3 H locs ls hf hP hS (lv_sub hl [0, 1] rfl)
  have hf := fif_pos q hf
  refine lv_iconst (v := (1 : Int32)) C.1 C.2.1 (kd kX8_tellLeaving_0 12 rfl) (by decide) ?_
  refine lv_goto (tgt := 25) C.1 C.2.1 (kd kX8_tellLeaving_0 13 rfl) (by decide) ?_
  exact w_X8_tellLeaving_b25 C (x1) ((1 : Int32)) σ3 H locs ls hf hP hS (lv_sub hl [0, 1] rfl)
def f_X8_leaves (x1 : Int32) (x2 : Int32) (σ : fS) : Option (Int32 × fS) := fcall (f_X8_isCrossing x1 σ) (fun r1_ σ1 => (if r1_ = 0 then some ((-10001 : Int32), σ1) else fcallv (f_X8_tell σ1) (fun σ2 => fcallv (f_X8_tellLeaving x1 σ2) (fun σ3 => fcall (f_X8_in x2 (0 : Int32) ((σ3 164 27) - (1 : Int32)) σ3) (fun r4_ σ4 => (if r4_ = 0 then some ((-10004 : Int32), σ4) else fb x2 24 (some ((σ4 185 x2.toNatClampNeg), σ4))))))))
set_option maxRecDepth 100000 in
set_option maxHeartbeats 4000000 in
theorem m_X8_leaves {Γ : fGm} (hI : fI Γ) (l : Launch) {x1 : Int32} {x2 : Int32} {σ : fS} {r : Int32} {σ' : fS} (hf : f_X8_leaves x1 x2 σ = some (r, σ')) : Met l yX8_leaves (.code yX8_leaves cX8_leaves 3 (some .int) :: lw_g) ({ frames := 7, cells := 0, slots := 0, locals := 163 } : Room) (fPre Γ [.ref (Γ.1 164), .int x1, .int x2] σ) (fQi Γ r σ') 0 0 (fAd Γ) := by
  refine fl_enter (own := RX8) hI (by decide +kernel) rfl (Nat.le_of_ble_eq_true rfl) ?_
  intro p e s m args below meth c ls C hl hP hS
  have hl : lv_has ls 3 [(0, .ref (Γ.1 164)), (1, .int x1), (2, .int x2)] := hl
  obtain ⟨H, hH⟩ : ∃ H, H = s.heap := ⟨_, rfl⟩
  obtain ⟨locs, hL⟩ : ∃ L : List Loc, L = [] := ⟨_, rfl⟩
  have hP : fH Γ σ H := by rw [hH]; exact hP
  have hS : va_S (fAd Γ) s.heap H locs := by rw [hH, hL]; exact hS
  suffices hw : W p l e ({ frames := 7, cells := 0, slots := 0, locals := 163 } : Room) s m args below meth c H locs 0 0 (MQ below (fQi Γ r σ') args s 0 0 (fAd Γ)) (F0 m 0 ls []) by rw [hH, hL] at hw; exact hw
  unfold f_X8_leaves at hf
  refine lv_aload_n C.1 C.2.1 (kd kX8_leaves_0 0 rfl) rfl (lv_at hl 0 rfl) ?_
  refine lv_iload_n C.1 C.2.1 (kd kX8_leaves_0 1 rfl) rfl (lv_at hl 1 rfl) ?_
  obtain ⟨r1_, σ1, hσ1, hf⟩ := fcall_some hf
  refine fl_i hS (fl_runV (As := [.int x1]) (rest := []) C hP rfl (Nat.le_of_ble_eq_true rfl) rfl (m_X8_isCrossing C.2.2.2.2.2.2.2.2 l  hσ1) (fgV tw_1010 tw_1012 tw_28 tw_75 tw_1013) hd_X8_isCrossing ⟨rfl, rfl, Nat.le_of_ble_eq_true rfl, Nat.le_of_ble_eq_true rfl⟩ rfl hl.1 rfl (Nat.le_of_ble_eq_true rfl) (kd kX8_leaves_0 2 rfl)) (fun H locs hP hS => ?_)
  refine lv_if_ne (tgt := 12) C.1 C.2.1 (kd kX8_leaves_0 3 rfl) (by decide) (fun q => ?_) (fun q => ?_)
  · have hf := fif_neg q hf
    refine lv_aload_n C.1 C.2.1 (kd kX8_leaves_0 6 rfl) rfl (lv_at hl 0 rfl) ?_
    obtain ⟨σ2, hσ2, hf⟩ := fcallv_some hf
    refine fl_v hS (fl_runV (As := []) (rest := []) C hP rfl (Nat.le_of_ble_eq_true rfl) rfl (m_X8_tell C.2.2.2.2.2.2.2.2 l  hσ2) (fgV tw_1110 tw_1112 tw_41 tw_75 tw_1113) hd_X8_tell ⟨rfl, rfl, Nat.le_of_ble_eq_true rfl, Nat.le_of_ble_eq_true rfl⟩ rfl hl.1 rfl (Nat.le_of_ble_eq_true rfl) (kd kX8_leaves_0 7 rfl)) (fun H locs hP hS => ?_)
    refine lv_aload_n C.1 C.2.1 (kd kX8_leaves_0 8 rfl) rfl (lv_at hl 0 rfl) ?_
    refine lv_iload_n C.1 C.2.1 (kd kX8_leaves_0 9 rfl) rfl (lv_at hl 1 rfl) ?_
    obtain ⟨σ3, hσ3, hf⟩ := fcallv_some hf
    refine fl_v hS (fl_runV (As := [.int x1]) (rest := []) C hP rfl (Nat.le_of_ble_eq_true rfl) rfl (m_X8_tellLeaving C.2.2.2.2.2.2.2.2 l  hσ3) (fgV tw_1257 tw_1259 tw_61 tw_75 tw_1260) hd_X8_tellLeaving ⟨rfl, rfl, Nat.le_of_ble_eq_true rfl, Nat.le_of_ble_eq_true rfl⟩ rfl hl.1 rfl (Nat.le_of_ble_eq_true rfl) (kd kX8_leaves_0 10 rfl)) (fun H locs hP hS => ?_)
    refine lv_iload_n C.1 C.2.1 (kd kX8_leaves_0 11 rfl) rfl (lv_at hl 2 rfl) ?_
    refine lv_iconst (v := (0 : Int32)) C.1 C.2.1 (kd kX8_leaves_0 12 rfl) (by decide) ?_
    refine lv_aload_n C.1 C.2.1 (kd kX8_leaves_0 13 rfl) rfl (lv_at hl 0 rfl) ?_
    refine fl_get (j := 27) (v := .int (σ3 164 27)) C hP rfl (Nat.le_of_ble_eq_true rfl) rfl inX8 (Nat.le_of_ble_eq_true rfl) tw_889 rfl (kd kX8_leaves_0 14 rfl) ?_
    refine lv_iconst (v := (1 : Int32)) C.1 C.2.1 (kd kX8_leaves_0 15 rfl) (by decide) ?_
    refine lv_isub C.1 C.2.1 (kd kX8_leaves_0 16 rfl) ?_
    obtain ⟨r4_, σ4, hσ4, hf⟩ := fcall_some hf
    refine fl_i hS (fl_runS (As := [.int x2, .int (0 : Int32), .int ((σ3 164 27) - (1 : Int32))]) (rest := []) C hP (m_X8_in C.2.2.2.2.2.2.2.2 l  hσ4) (fgS tw_968 tw_969 tw_75 tw_970) hs_X8_in ⟨rfl, rfl, Nat.le_of_ble_eq_true rfl, Nat.le_of_ble_eq_true rfl⟩ rfl hl.1 rfl (Nat.le_of_ble_eq_true rfl) (kd kX8_leaves_0 17 rfl)) (fun H locs hP hS => ?_)
    refine lv_if_eq (tgt := 44) C.1 C.2.1 (kd kX8_leaves_0 18 rfl) (by decide) (fun q => ?_) (fun q => ?_)
    · have hf := fif_pos q hf
      refine lv_sipush (v := (-10004 : Int32)) C.1 C.2.1 (kd kX8_leaves_0 24 rfl) (by decide) ?_
      exact fl_iret C hP hS hf (kd kX8_leaves_0 25 rfl)
    have hf := fif_neg q hf
    refine lv_aload_n C.1 C.2.1 (kd kX8_leaves_0 19 rfl) rfl (lv_at hl 0 rfl) ?_
    refine fl_get (j := 26) (v := .ref (Γ.1 185)) C hP rfl (Nat.le_of_ble_eq_true rfl) rfl inX8 (Nat.le_of_ble_eq_true rfl) tw_888 rfl (kd kX8_leaves_0 20 rfl) ?_
    refine lv_iload_n C.1 C.2.1 (kd kX8_leaves_0 21 rfl) rfl (lv_at hl 2 rfl) ?_
    obtain ⟨hq, hf⟩ := fb_some hf
    refine fl_iald C hP rfl hq (kd kX8_leaves_0 22 rfl) ?_
    refine lv_goto (tgt := 47) C.1 C.2.1 (kd kX8_leaves_0 23 rfl) (by decide) ?_
    exact fl_iret C hP hS hf (kd kX8_leaves_0 25 rfl)
  have hf := fif_pos q hf
  refine lv_sipush (v := (-10001 : Int32)) C.1 C.2.1 (kd kX8_leaves_0 4 rfl) (by decide) ?_
  exact fl_iret C hP hS hf (kd kX8_leaves_0 5 rfl)
def f_X8_isOrderly_b75 (K8 : Int32 → Int32 → fS → Option (Int32 × fS)) (K48 : Int32 → Int32 → Int32 → fS → Option (Int32 × fS)) (v2 : Int32) (v3 : Int32) (s0 : Int32) (σ : fS) : Option (Int32 × fS) := K48 (s0) (v2) ((v3 + (1 : Int32))) σ
set_option maxRecDepth 100000 in
set_option maxHeartbeats 4000000 in
theorem w_X8_isOrderly_b75 {r : Int32} {σ' : fS} {K8 : Int32 → Int32 → fS → Option (Int32 × fS)} {K48 : Int32 → Int32 → Int32 → fS → Option (Int32 × fS)}  (C : fC Γ p s m args meth c cX8_isOrderly (some .int) RX8 4) (hK8 : ∀ (v1 : Int32) (v2 : Int32) (σ : fS) (H : Heap) (locs : List Loc) (ls : Array Slot), K8 v1 v2 σ = some (r, σ') → fH Γ σ H → va_S (fAd Γ) s.heap H locs → lv_has ls 4 [(0, .ref (Γ.1 164)), (1, .int v1), (2, .int v2)] → W p l e ({ frames := 7, cells := 0, slots := 0, locals := 163 } : Room) s m args below meth c H locs 0 0 (MQ below (fQi Γ r σ') args s 0 0 (fAd Γ)) (F0 m 8 ls [])) (hK48 : ∀ (v1 : Int32) (v2 : Int32) (v3 : Int32) (σ : fS) (H : Heap) (locs : List Loc) (ls : Array Slot), K48 v1 v2 v3 σ = some (r, σ') → fH Γ σ H → va_S (fAd Γ) s.heap H locs → lv_has ls 4 [(0, .ref (Γ.1 164)), (1, .int v1), (2, .int v2), (3, .int v3)] → W p l e ({ frames := 7, cells := 0, slots := 0, locals := 163 } : Room) s m args below meth c H locs 0 0 (MQ below (fQi Γ r σ') args s 0 0 (fAd Γ)) (F0 m 48 ls [])) : ∀ (v2 : Int32) (v3 : Int32) (s0 : Int32) (σ : fS) (H : Heap) (locs : List Loc) (ls : Array Slot), f_X8_isOrderly_b75 K8 K48 v2 v3 s0 σ = some (r, σ') → fH Γ σ H → va_S (fAd Γ) s.heap H locs → lv_has ls 4 [(0, .ref (Γ.1 164)), (2, .int v2), (3, .int v3)] → W p l e ({ frames := 7, cells := 0, slots := 0, locals := 163 } : Room) s m args below meth c H locs 0 0 (MQ below (fQi Γ r σ') args s 0 0 (fAd Γ)) (F0 m 75 ls [.int s0]) := by
  intro v2 v3 s0 σ H locs ls hf hP hS hl
  unfold f_X8_isOrderly_b75 at hf
  refine lv_istore_n (lv' := [(1, .int s0), (0, .ref (Γ.1 164)), (2, .int v2), (3, .int v3)]) C.1 C.2.1 (kd kX8_isOrderly_0 46 rfl) rfl hl (Nat.le_of_ble_eq_true rfl) rfl (fun ls hl => ?_)
  refine lv_iinc (v := (v3 + (1 : Int32))) (lv' := [(3, .int (v3 + (1 : Int32))), (1, .int s0), (0, .ref (Γ.1 164)), (2, .int v2)]) C.1 C.2.1 (kd kX8_isOrderly_0 47 rfl) hl (k := 3) rfl rfl (Nat.le_of_ble_eq_true rfl) rfl (fun ls hl => ?_)
  refine lv_goto (tgt := 48) C.1 C.2.1 (kd kX8_isOrderly_0 48 rfl) (by decide) ?_
  exact hK48 (s0) (v2) ((v3 + (1 : Int32))) σ H locs ls hf hP hS (lv_sub hl [2, 1, 3, 0] rfl)
def f_X8_isOrderly_b74 (K8 : Int32 → Int32 → fS → Option (Int32 × fS)) (K48 : Int32 → Int32 → Int32 → fS → Option (Int32 × fS)) (v2 : Int32) (v3 : Int32) (σ : fS) : Option (Int32 × fS) := f_X8_isOrderly_b75 K8 K48 (v2) (v3) ((0 : Int32)) σ
set_option maxRecDepth 100000 in
set_option maxHeartbeats 4000000 in
theorem w_X8_isOrderly_b74 {r : Int32} {σ' : fS} {K8 : Int32 → Int32 → fS → Option (Int32 × fS)} {K48 : Int32 → Int32 → Int32 → fS → Option (Int32 × fS)}  (C : fC Γ p s m args meth c cX8_isOrderly (some .int) RX8 4) (hK8 : ∀ (v1 : Int32) (v2 : Int32) (σ : fS) (H : Heap) (locs : List Loc) (ls : Array Slot), K8 v1 v2 σ = some (r, σ') → fH Γ σ H → va_S (fAd Γ) s.heap H locs → lv_has ls 4 [(0, .ref (Γ.1 164)), (1, .int v1), (2, .int v2)] → W p l e ({ frames := 7, cells := 0, slots := 0, locals := 163 } : Room) s m args below meth c H locs 0 0 (MQ below (fQi Γ r σ') args s 0 0 (fAd Γ)) (F0 m 8 ls [])) (hK48 : ∀ (v1 : Int32) (v2 : Int32) (v3 : Int32) (σ : fS) (H : Heap) (locs : List Loc) (ls : Array Slot), K48 v1 v2 v3 σ = some (r, σ') → fH Γ σ H → va_S (fAd Γ) s.heap H locs → lv_has ls 4 [(0, .ref (Γ.1 164)), (1, .int v1), (2, .int v2), (3, .int v3)] → W p l e ({ frames := 7, cells := 0, slots := 0, locals := 163 } : Room) s m args below meth c H locs 0 0 (MQ below (fQi Γ r σ') args s 0 0 (fAd Γ)) (F0 m 48 ls [])) : ∀ (v2 : Int32) (v3 : Int32) (σ : fS) (H : Heap) (locs : List Loc) (ls : Array Slot), f_X8_isOrderly_b74 K8 K48 v2 v3 σ = some (r, σ') → fH Γ σ H → va_S (fAd Γ) s.heap H locs → lv_has ls 4 [(0, .ref (Γ.1 164)), (2, .int v2), (3, .int v3)] → W p l e ({ frames := 7, cells := 0, slots := 0, locals := 163 } : Room) s m args below meth c H locs 0 0 (MQ below (fQi Γ r σ') args s 0 0 (fAd Γ)) (F0 m 74 ls []) := by
  intro v2 v3 σ H locs ls hf hP hS hl
  unfold f_X8_isOrderly_b74 at hf
  refine lv_iconst (v := (0 : Int32)) C.1 C.2.1 (kd kX8_isOrderly_0 45 rfl) (by decide) ?_
  exact w_X8_isOrderly_b75 C hK8 hK48 (v2) (v3) ((0 : Int32)) σ H locs ls hf hP hS (lv_sub hl [0, 1, 2] rfl)
def f_X8_isOrderly_b48 (K8 : Int32 → Int32 → fS → Option (Int32 × fS)) : Nat → Int32 → Int32 → Int32 → fS → Option (Int32 × fS)
  | 0, _, _, _, _ => none
  | n_ + 1, v1, v2, v3, σ => (if (4 : Int32) ≤ v3 then K8 (v1) ((v2 + (1 : Int32))) σ else (if v1 = 0 then f_X8_isOrderly_b74 K8 (fun v1 v2 v3 σ => f_X8_isOrderly_b48 K8 n_ v1 v2 v3 σ) (v2) (v3) σ else fb (((4 : Int32) * v2) + v3) 48 ((if (σ 184 (((4 : Int32) * v2) + v3).toNatClampNeg) < 0 then f_X8_isOrderly_b74 K8 (fun v1 v2 v3 σ => f_X8_isOrderly_b48 K8 n_ v1 v2 v3 σ) (v2) (v3) σ else f_X8_isOrderly_b75 K8 (fun v1 v2 v3 σ => f_X8_isOrderly_b48 K8 n_ v1 v2 v3 σ) (v2) (v3) ((1 : Int32)) σ))))
set_option maxRecDepth 100000 in
set_option maxHeartbeats 4000000 in
theorem w_X8_isOrderly_b48 {r : Int32} {σ' : fS} {K8 : Int32 → Int32 → fS → Option (Int32 × fS)}  (C : fC Γ p s m args meth c cX8_isOrderly (some .int) RX8 4) (hK8 : ∀ (v1 : Int32) (v2 : Int32) (σ : fS) (H : Heap) (locs : List Loc) (ls : Array Slot), K8 v1 v2 σ = some (r, σ') → fH Γ σ H → va_S (fAd Γ) s.heap H locs → lv_has ls 4 [(0, .ref (Γ.1 164)), (1, .int v1), (2, .int v2)] → W p l e ({ frames := 7, cells := 0, slots := 0, locals := 163 } : Room) s m args below meth c H locs 0 0 (MQ below (fQi Γ r σ') args s 0 0 (fAd Γ)) (F0 m 8 ls [])) : ∀ (n_ : Nat) (v1 : Int32) (v2 : Int32) (v3 : Int32) (σ : fS) (H : Heap) (locs : List Loc) (ls : Array Slot), f_X8_isOrderly_b48 K8 n_ v1 v2 v3 σ = some (r, σ') → fH Γ σ H → va_S (fAd Γ) s.heap H locs → lv_has ls 4 [(0, .ref (Γ.1 164)), (1, .int v1), (2, .int v2), (3, .int v3)] → W p l e ({ frames := 7, cells := 0, slots := 0, locals := 163 } : Room) s m args below meth c H locs 0 0 (MQ below (fQi Γ r σ') args s 0 0 (fAd Γ)) (F0 m 48 ls []) := by
  intro n_
  induction n_ with
  | zero =>
    intro v1 v2 v3 σ H locs ls hf
    cases hf
  | succ n_ ih =>
    intro v1 v2 v3 σ H locs ls hf hP hS hl
    have hf : (if (4 : Int32) ≤ v3 then K8 (v1) ((v2 + (1 : Int32))) σ else (if v1 = 0 then f_X8_isOrderly_b74 K8 (fun v1 v2 v3 σ => f_X8_isOrderly_b48 K8 n_ v1 v2 v3 σ) (v2) (v3) σ else fb (((4 : Int32) * v2) + v3) 48 ((if (σ 184 (((4 : Int32) * v2) + v3).toNatClampNeg) < 0 then f_X8_isOrderly_b74 K8 (fun v1 v2 v3 σ => f_X8_isOrderly_b48 K8 n_ v1 v2 v3 σ) (v2) (v3) σ else f_X8_isOrderly_b75 K8 (fun v1 v2 v3 σ => f_X8_isOrderly_b48 K8 n_ v1 v2 v3 σ) (v2) (v3) ((1 : Int32)) σ)))) = some (r, σ') := hf
    have hK48 := ih
    refine lv_iload_n C.1 C.2.1 (kd kX8_isOrderly_0 29 rfl) rfl (lv_at hl 3 rfl) ?_
    refine lv_iconst (v := (4 : Int32)) C.1 C.2.1 (kd kX8_isOrderly_0 30 rfl) (by decide) ?_
    refine lv_icmp_ge (tgt := 82) C.1 C.2.1 (kd kX8_isOrderly_0 31 rfl) (by decide) (fun q => ?_) (fun q => ?_)
    · have hf := fif_pos q hf
      refine lv_iinc (v := (v2 + (1 : Int32))) (lv' := [(2, .int (v2 + (1 : Int32))), (0, .ref (Γ.1 164)), (1, .int v1), (3, .int v3)]) C.1 C.2.1 (kd kX8_isOrderly_0 49 rfl) hl (k := 2) rfl rfl (Nat.le_of_ble_eq_true rfl) rfl (fun ls hl => ?_)
      refine lv_goto (tgt := 8) C.1 C.2.1 (kd kX8_isOrderly_0 50 rfl) (by decide) ?_
      exact hK8 (v1) ((v2 + (1 : Int32))) σ H locs ls hf hP hS (lv_sub hl [1, 2, 0] rfl)
    have hf := fif_neg q hf
    refine lv_iload_n C.1 C.2.1 (kd kX8_isOrderly_0 32 rfl) rfl (lv_at hl 1 rfl) ?_
    refine lv_if_eq (tgt := 74) C.1 C.2.1 (kd kX8_isOrderly_0 33 rfl) (by decide) (fun q => ?_) (fun q => ?_)
    · have hf := fif_pos q hf
      exact w_X8_isOrderly_b74 C hK8 hK48 (v2) (v3) σ H locs ls hf hP hS (lv_sub hl [0, 2, 3] rfl)
    have hf := fif_neg q hf
    refine lv_aload_n C.1 C.2.1 (kd kX8_isOrderly_0 34 rfl) rfl (lv_at hl 0 rfl) ?_
    refine fl_get (j := 25) (v := .ref (Γ.1 184)) C hP rfl (Nat.le_of_ble_eq_true rfl) rfl inX8 (Nat.le_of_ble_eq_true rfl) tw_887 rfl (kd kX8_isOrderly_0 35 rfl) ?_
    refine lv_iconst (v := (4 : Int32)) C.1 C.2.1 (kd kX8_isOrderly_0 36 rfl) (by decide) ?_
    refine lv_iload_n C.1 C.2.1 (kd kX8_isOrderly_0 37 rfl) rfl (lv_at hl 2 rfl) ?_
    refine lv_imul C.1 C.2.1 (kd kX8_isOrderly_0 38 rfl) ?_
    refine lv_iload_n C.1 C.2.1 (kd kX8_isOrderly_0 39 rfl) rfl (lv_at hl 3 rfl) ?_
    refine lv_iadd C.1 C.2.1 (kd kX8_isOrderly_0 40 rfl) ?_
    obtain ⟨hq, hf⟩ := fb_some hf
    refine fl_iald C hP rfl hq (kd kX8_isOrderly_0 41 rfl) ?_
    refine lv_if_lt (tgt := 74) C.1 C.2.1 (kd kX8_isOrderly_0 42 rfl) (by decide) (fun q => ?_) (fun q => ?_)
    · have hf := fif_pos q hf
      exact w_X8_isOrderly_b74 C hK8 hK48 (v2) (v3) σ H locs ls hf hP hS (lv_sub hl [0, 2, 3] rfl)
    have hf := fif_neg q hf
    refine lv_iconst (v := (1 : Int32)) C.1 C.2.1 (kd kX8_isOrderly_0 43 rfl) (by decide) ?_
    refine lv_goto (tgt := 75) C.1 C.2.1 (kd kX8_isOrderly_0 44 rfl) (by decide) ?_
    exact w_X8_isOrderly_b75 C hK8 hK48 (v2) (v3) ((1 : Int32)) σ H locs ls hf hP hS (lv_sub hl [0, 2, 3] rfl)
def f_X8_isOrderly_b45 (K8 : Int32 → Int32 → fS → Option (Int32 × fS)) (v2 : Int32) (s0 : Int32) (σ : fS) : Option (Int32 × fS) := f_X8_isOrderly_b48 K8 fN (s0) (v2) ((0 : Int32)) σ
set_option maxRecDepth 100000 in
set_option maxHeartbeats 4000000 in
theorem w_X8_isOrderly_b45 {r : Int32} {σ' : fS} {K8 : Int32 → Int32 → fS → Option (Int32 × fS)}  (C : fC Γ p s m args meth c cX8_isOrderly (some .int) RX8 4) (hK8 : ∀ (v1 : Int32) (v2 : Int32) (σ : fS) (H : Heap) (locs : List Loc) (ls : Array Slot), K8 v1 v2 σ = some (r, σ') → fH Γ σ H → va_S (fAd Γ) s.heap H locs → lv_has ls 4 [(0, .ref (Γ.1 164)), (1, .int v1), (2, .int v2)] → W p l e ({ frames := 7, cells := 0, slots := 0, locals := 163 } : Room) s m args below meth c H locs 0 0 (MQ below (fQi Γ r σ') args s 0 0 (fAd Γ)) (F0 m 8 ls [])) : ∀ (v2 : Int32) (s0 : Int32) (σ : fS) (H : Heap) (locs : List Loc) (ls : Array Slot), f_X8_isOrderly_b45 K8 v2 s0 σ = some (r, σ') → fH Γ σ H → va_S (fAd Γ) s.heap H locs → lv_has ls 4 [(0, .ref (Γ.1 164)), (2, .int v2)] → W p l e ({ frames := 7, cells := 0, slots := 0, locals := 163 } : Room) s m args below meth c H locs 0 0 (MQ below (fQi Γ r σ') args s 0 0 (fAd Γ)) (F0 m 45 ls [.int s0]) := by
  intro v2 s0 σ H locs ls hf hP hS hl
  unfold f_X8_isOrderly_b45 at hf
  refine lv_istore_n (lv' := [(1, .int s0), (0, .ref (Γ.1 164)), (2, .int v2)]) C.1 C.2.1 (kd kX8_isOrderly_0 26 rfl) rfl hl (Nat.le_of_ble_eq_true rfl) rfl (fun ls hl => ?_)
  refine lv_iconst (v := (0 : Int32)) C.1 C.2.1 (kd kX8_isOrderly_0 27 rfl) (by decide) ?_
  refine lv_istore_n (lv' := [(3, .int (0 : Int32)), (1, .int s0), (0, .ref (Γ.1 164)), (2, .int v2)]) C.1 C.2.1 (kd kX8_isOrderly_0 28 rfl) rfl hl (Nat.le_of_ble_eq_true rfl) rfl (fun ls hl => ?_)
  exact w_X8_isOrderly_b48 C hK8 fN (s0) (v2) ((0 : Int32)) σ H locs ls hf hP hS (lv_sub hl [2, 1, 3, 0] rfl)
def f_X8_isOrderly_b44 (K8 : Int32 → Int32 → fS → Option (Int32 × fS)) (v2 : Int32) (σ : fS) : Option (Int32 × fS) := f_X8_isOrderly_b45 K8 (v2) ((0 : Int32)) σ
set_option maxRecDepth 100000 in
set_option maxHeartbeats 4000000 in
theorem w_X8_isOrderly_b44 {r : Int32} {σ' : fS} {K8 : Int32 → Int32 → fS → Option (Int32 × fS)}  (C : fC Γ p s m args meth c cX8_isOrderly (some .int) RX8 4) (hK8 : ∀ (v1 : Int32) (v2 : Int32) (σ : fS) (H : Heap) (locs : List Loc) (ls : Array Slot), K8 v1 v2 σ = some (r, σ') → fH Γ σ H → va_S (fAd Γ) s.heap H locs → lv_has ls 4 [(0, .ref (Γ.1 164)), (1, .int v1), (2, .int v2)] → W p l e ({ frames := 7, cells := 0, slots := 0, locals := 163 } : Room) s m args below meth c H locs 0 0 (MQ below (fQi Γ r σ') args s 0 0 (fAd Γ)) (F0 m 8 ls [])) : ∀ (v2 : Int32) (σ : fS) (H : Heap) (locs : List Loc) (ls : Array Slot), f_X8_isOrderly_b44 K8 v2 σ = some (r, σ') → fH Γ σ H → va_S (fAd Γ) s.heap H locs → lv_has ls 4 [(0, .ref (Γ.1 164)), (2, .int v2)] → W p l e ({ frames := 7, cells := 0, slots := 0, locals := 163 } : Room) s m args below meth c H locs 0 0 (MQ below (fQi Γ r σ') args s 0 0 (fAd Γ)) (F0 m 44 ls []) := by
  intro v2 σ H locs ls hf hP hS hl
  unfold f_X8_isOrderly_b44 at hf
  refine lv_iconst (v := (0 : Int32)) C.1 C.2.1 (kd kX8_isOrderly_0 25 rfl) (by decide) ?_
  exact w_X8_isOrderly_b45 C hK8 (v2) ((0 : Int32)) σ H locs ls hf hP hS (lv_sub hl [0, 1] rfl)
def f_X8_isOrderly_b8 : Nat → Int32 → Int32 → fS → Option (Int32 × fS)
  | 0, _, _, _ => none
  | n_ + 1, v1, v2, σ => fb (122 : Int32) 277 ((if (σ 165 (122 : Int32).toNatClampNeg) ≤ v2 then (if v1 = 0 then some ((0 : Int32), σ) else some ((1 : Int32), σ)) else fcallv (f_X8_tellLeaving v2 σ) (fun σ1 => (if v1 = 0 then f_X8_isOrderly_b44 (fun v1 v2 σ => f_X8_isOrderly_b8 n_ v1 v2 σ) (v2) σ1 else fcall (f_X8_loaded v2 σ1) (fun r2_ σ2 => (if (σ1 164 27) = r2_ then f_X8_isOrderly_b45 (fun v1 v2 σ => f_X8_isOrderly_b8 n_ v1 v2 σ) (v2) ((1 : Int32)) σ2 else f_X8_isOrderly_b44 (fun v1 v2 σ => f_X8_isOrderly_b8 n_ v1 v2 σ) (v2) σ2))))))
set_option maxRecDepth 100000 in
set_option maxHeartbeats 4000000 in
theorem w_X8_isOrderly_b8 {r : Int32} {σ' : fS}  (C : fC Γ p s m args meth c cX8_isOrderly (some .int) RX8 4) : ∀ (n_ : Nat) (v1 : Int32) (v2 : Int32) (σ : fS) (H : Heap) (locs : List Loc) (ls : Array Slot), f_X8_isOrderly_b8 n_ v1 v2 σ = some (r, σ') → fH Γ σ H → va_S (fAd Γ) s.heap H locs → lv_has ls 4 [(0, .ref (Γ.1 164)), (1, .int v1), (2, .int v2)] → W p l e ({ frames := 7, cells := 0, slots := 0, locals := 163 } : Room) s m args below meth c H locs 0 0 (MQ below (fQi Γ r σ') args s 0 0 (fAd Γ)) (F0 m 8 ls []) := by
  intro n_
  induction n_ with
  | zero =>
    intro v1 v2 σ H locs ls hf
    cases hf
  | succ n_ ih =>
    intro v1 v2 σ H locs ls hf hP hS hl
    have hf : fb (122 : Int32) 277 ((if (σ 165 (122 : Int32).toNatClampNeg) ≤ v2 then (if v1 = 0 then some ((0 : Int32), σ) else some ((1 : Int32), σ)) else fcallv (f_X8_tellLeaving v2 σ) (fun σ1 => (if v1 = 0 then f_X8_isOrderly_b44 (fun v1 v2 σ => f_X8_isOrderly_b8 n_ v1 v2 σ) (v2) σ1 else fcall (f_X8_loaded v2 σ1) (fun r2_ σ2 => (if (σ1 164 27) = r2_ then f_X8_isOrderly_b45 (fun v1 v2 σ => f_X8_isOrderly_b8 n_ v1 v2 σ) (v2) ((1 : Int32)) σ2 else f_X8_isOrderly_b44 (fun v1 v2 σ => f_X8_isOrderly_b8 n_ v1 v2 σ) (v2) σ2)))))) = some (r, σ') := hf
    have hK8 := ih
    refine lv_iload_n C.1 C.2.1 (kd kX8_isOrderly_0 6 rfl) rfl (lv_at hl 2 rfl) ?_
    refine lv_aload_n C.1 C.2.1 (kd kX8_isOrderly_0 7 rfl) rfl (lv_at hl 0 rfl) ?_
    refine fl_get (j := 0) (v := .ref (Γ.1 165)) C hP rfl (Nat.le_of_ble_eq_true rfl) rfl inX8 (Nat.le_of_ble_eq_true rfl) tw_862 rfl (kd kX8_isOrderly_0 8 rfl) ?_
    refine lv_bipush (v := (122 : Int32)) C.1 C.2.1 (kd kX8_isOrderly_0 9 rfl) (by decide) ?_
    obtain ⟨hq, hf⟩ := fb_some hf
    refine fl_iald C hP rfl hq (kd kX8_isOrderly_0 10 rfl) ?_
    refine lv_icmp_ge (tgt := 88) C.1 C.2.1 (kd kX8_isOrderly_0 11 rfl) (by decide) (fun q => ?_) (fun q => ?_)
    · have hf := fif_pos q hf
      refine lv_iload_n C.1 C.2.1 (kd kX8_isOrderly_0 51 rfl) rfl (lv_at hl 1 rfl) ?_
      refine lv_if_eq (tgt := 96) C.1 C.2.1 (kd kX8_isOrderly_0 52 rfl) (by decide) (fun q => ?_) (fun q => ?_)
      · have hf := fif_pos q hf
        refine lv_iconst (v := (0 : Int32)) C.1 C.2.1 (kd kX8_isOrderly_0 55 rfl) (by decide) ?_
        exact fl_iret C hP hS hf (kd kX8_isOrderly_0 56 rfl)
      have hf := fif_neg q hf
      refine lv_iconst (v := (1 : Int32)) C.1 C.2.1 (kd kX8_isOrderly_0 53 rfl) (by decide) ?_
      refine lv_goto (tgt := 97) C.1 C.2.1 (kd kX8_isOrderly_0 54 rfl) (by decide) ?_
      exact fl_iret C hP hS hf (kd kX8_isOrderly_0 56 rfl)
    have hf := fif_neg q hf
    refine lv_aload_n C.1 C.2.1 (kd kX8_isOrderly_0 12 rfl) rfl (lv_at hl 0 rfl) ?_
    refine lv_iload_n C.1 C.2.1 (kd kX8_isOrderly_0 13 rfl) rfl (lv_at hl 2 rfl) ?_
    obtain ⟨σ1, hσ1, hf⟩ := fcallv_some hf
    refine fl_v hS (fl_runV (As := [.int v2]) (rest := []) C hP rfl (Nat.le_of_ble_eq_true rfl) rfl (m_X8_tellLeaving C.2.2.2.2.2.2.2.2 l  hσ1) (fgV tw_1257 tw_1259 tw_61 tw_75 tw_1260) hd_X8_tellLeaving ⟨rfl, rfl, Nat.le_of_ble_eq_true rfl, Nat.le_of_ble_eq_true rfl⟩ rfl hl.1 rfl (Nat.le_of_ble_eq_true rfl) (kd kX8_isOrderly_0 14 rfl)) (fun H locs hP hS => ?_)
    refine lv_iload_n C.1 C.2.1 (kd kX8_isOrderly_0 15 rfl) rfl (lv_at hl 1 rfl) ?_
    refine lv_if_eq (tgt := 44) C.1 C.2.1 (kd kX8_isOrderly_0 16 rfl) (by decide) (fun q => ?_) (fun q => ?_)
    · have hf := fif_pos q hf
      exact w_X8_isOrderly_b44 C hK8 (v2) σ1 H locs ls hf hP hS (lv_sub hl [0, 2] rfl)
    have hf := fif_neg q hf
    refine lv_aload_n C.1 C.2.1 (kd kX8_isOrderly_0 17 rfl) rfl (lv_at hl 0 rfl) ?_
    refine fl_get (j := 27) (v := .int (σ1 164 27)) C hP rfl (Nat.le_of_ble_eq_true rfl) rfl inX8 (Nat.le_of_ble_eq_true rfl) tw_889 rfl (kd kX8_isOrderly_0 18 rfl) ?_
    refine lv_aload_n C.1 C.2.1 (kd kX8_isOrderly_0 19 rfl) rfl (lv_at hl 0 rfl) ?_
    refine lv_iload_n C.1 C.2.1 (kd kX8_isOrderly_0 20 rfl) rfl (lv_at hl 2 rfl) ?_
    obtain ⟨r2_, σ2, hσ2, hf⟩ := fcall_some hf
    refine fl_i hS (fl_runV (As := [.int v2]) (rest := [.int (σ1 164 27)]) C hP rfl (Nat.le_of_ble_eq_true rfl) rfl (m_X8_loaded C.2.2.2.2.2.2.2.2 l  hσ2) (fgV tw_1191 tw_1193 tw_59 tw_75 tw_1194) hd_X8_loaded ⟨rfl, rfl, Nat.le_of_ble_eq_true rfl, Nat.le_of_ble_eq_true rfl⟩ rfl hl.1 rfl (Nat.le_of_ble_eq_true rfl) (kd kX8_isOrderly_0 21 rfl)) (fun H locs hP hS => ?_)
    refine lv_icmp_ne (tgt := 44) C.1 C.2.1 (kd kX8_isOrderly_0 22 rfl) (by decide) (fun q => ?_) (fun q => ?_)
    · have hf := fif_neg q hf
      exact w_X8_isOrderly_b44 C hK8 (v2) σ2 H locs ls hf hP hS (lv_sub hl [0, 2] rfl)
    have hf := fif_pos q hf
    refine lv_iconst (v := (1 : Int32)) C.1 C.2.1 (kd kX8_isOrderly_0 23 rfl) (by decide) ?_
    refine lv_goto (tgt := 45) C.1 C.2.1 (kd kX8_isOrderly_0 24 rfl) (by decide) ?_
    exact w_X8_isOrderly_b45 C hK8 (v2) ((1 : Int32)) σ2 H locs ls hf hP hS (lv_sub hl [0, 2] rfl)
def f_X8_isOrderly (σ : fS) : Option (Int32 × fS) := fcallv (f_X8_tell σ) (fun σ1 => f_X8_isOrderly_b8 fN ((1 : Int32)) ((0 : Int32)) σ1)
set_option maxRecDepth 100000 in
set_option maxHeartbeats 4000000 in
theorem m_X8_isOrderly {Γ : fGm} (hI : fI Γ) (l : Launch) {σ : fS} {r : Int32} {σ' : fS} (hf : f_X8_isOrderly  σ = some (r, σ')) : Met l yX8_isOrderly (.code yX8_isOrderly cX8_isOrderly 4 (some .int) :: lw_g) ({ frames := 7, cells := 0, slots := 0, locals := 163 } : Room) (fPre Γ [.ref (Γ.1 164)] σ) (fQi Γ r σ') 0 0 (fAd Γ) := by
  refine fl_enter (own := RX8) hI (by decide +kernel) rfl (Nat.le_of_ble_eq_true rfl) ?_
  intro p e s m args below meth c ls C hl hP hS
  have hl : lv_has ls 4 [(0, .ref (Γ.1 164))] := hl
  obtain ⟨H, hH⟩ : ∃ H, H = s.heap := ⟨_, rfl⟩
  obtain ⟨locs, hL⟩ : ∃ L : List Loc, L = [] := ⟨_, rfl⟩
  have hP : fH Γ σ H := by rw [hH]; exact hP
  have hS : va_S (fAd Γ) s.heap H locs := by rw [hH, hL]; exact hS
  suffices hw : W p l e ({ frames := 7, cells := 0, slots := 0, locals := 163 } : Room) s m args below meth c H locs 0 0 (MQ below (fQi Γ r σ') args s 0 0 (fAd Γ)) (F0 m 0 ls []) by rw [hH, hL] at hw; exact hw
  unfold f_X8_isOrderly at hf
  refine lv_aload_n C.1 C.2.1 (kd kX8_isOrderly_0 0 rfl) rfl (lv_at hl 0 rfl) ?_
  obtain ⟨σ1, hσ1, hf⟩ := fcallv_some hf
  refine fl_v hS (fl_runV (As := []) (rest := []) C hP rfl (Nat.le_of_ble_eq_true rfl) rfl (m_X8_tell C.2.2.2.2.2.2.2.2 l  hσ1) (fgV tw_1110 tw_1112 tw_41 tw_75 tw_1113) hd_X8_tell ⟨rfl, rfl, Nat.le_of_ble_eq_true rfl, Nat.le_of_ble_eq_true rfl⟩ rfl hl.1 rfl (Nat.le_of_ble_eq_true rfl) (kd kX8_isOrderly_0 1 rfl)) (fun H locs hP hS => ?_)
  refine lv_iconst (v := (1 : Int32)) C.1 C.2.1 (kd kX8_isOrderly_0 2 rfl) (by decide) ?_
  refine lv_istore_n (lv' := [(1, .int (1 : Int32)), (0, .ref (Γ.1 164))]) C.1 C.2.1 (kd kX8_isOrderly_0 3 rfl) rfl hl (Nat.le_of_ble_eq_true rfl) rfl (fun ls hl => ?_)
  refine lv_iconst (v := (0 : Int32)) C.1 C.2.1 (kd kX8_isOrderly_0 4 rfl) (by decide) ?_
  refine lv_istore_n (lv' := [(2, .int (0 : Int32)), (1, .int (1 : Int32)), (0, .ref (Γ.1 164))]) C.1 C.2.1 (kd kX8_isOrderly_0 5 rfl) rfl hl (Nat.le_of_ble_eq_true rfl) rfl (fun ls hl => ?_)
  exact w_X8_isOrderly_b8 C fN ((1 : Int32)) ((0 : Int32)) σ1 H locs ls hf hP hS (lv_sub hl [2, 1, 0] rfl)
def f_X8_meters_b39 (K4 : Int32 → Int32 → fS → Option (Int32 × fS)) (v2 : Int32) (s0 : Int32) (s1 : Int32) (σ : fS) : Option (Int32 × fS) := K4 ((s1 + s0)) ((v2 + (1 : Int32))) σ
set_option maxRecDepth 100000 in
set_option maxHeartbeats 4000000 in
theorem w_X8_meters_b39 {r : Int32} {σ' : fS} {K4 : Int32 → Int32 → fS → Option (Int32 × fS)}  (C : fC Γ p s m args meth c cX8_meters (some .int) RX8 3) (hK4 : ∀ (v1 : Int32) (v2 : Int32) (σ : fS) (H : Heap) (locs : List Loc) (ls : Array Slot), K4 v1 v2 σ = some (r, σ') → fH Γ σ H → va_S (fAd Γ) s.heap H locs → lv_has ls 3 [(0, .ref (Γ.1 164)), (1, .int v1), (2, .int v2)] → W p l e ({ frames := 1, cells := 0, slots := 0, locals := 22 } : Room) s m args below meth c H locs 0 0 (MQ below (fQi Γ r σ') args s 0 0 (fAd Γ)) (F0 m 4 ls [])) : ∀ (v2 : Int32) (s0 : Int32) (s1 : Int32) (σ : fS) (H : Heap) (locs : List Loc) (ls : Array Slot), f_X8_meters_b39 K4 v2 s0 s1 σ = some (r, σ') → fH Γ σ H → va_S (fAd Γ) s.heap H locs → lv_has ls 3 [(0, .ref (Γ.1 164)), (2, .int v2)] → W p l e ({ frames := 1, cells := 0, slots := 0, locals := 22 } : Room) s m args below meth c H locs 0 0 (MQ below (fQi Γ r σ') args s 0 0 (fAd Γ)) (F0 m 39 ls [.int s0, .int s1]) := by
  intro v2 s0 s1 σ H locs ls hf hP hS hl
  unfold f_X8_meters_b39 at hf
  refine lv_iadd C.1 C.2.1 (kd kX8_meters_0 23 rfl) ?_
  refine lv_istore_n (lv' := [(1, .int (s1 + s0)), (0, .ref (Γ.1 164)), (2, .int v2)]) C.1 C.2.1 (kd kX8_meters_0 24 rfl) rfl hl (Nat.le_of_ble_eq_true rfl) rfl (fun ls hl => ?_)
  refine lv_iinc (v := (v2 + (1 : Int32))) (lv' := [(2, .int (v2 + (1 : Int32))), (1, .int (s1 + s0)), (0, .ref (Γ.1 164))]) C.1 C.2.1 (kd kX8_meters_0 25 rfl) hl (k := 2) rfl rfl (Nat.le_of_ble_eq_true rfl) rfl (fun ls hl => ?_)
  refine lv_goto (tgt := 4) C.1 C.2.1 (kd kX8_meters_0 26 rfl) (by decide) ?_
  exact hK4 ((s1 + s0)) ((v2 + (1 : Int32))) σ H locs ls hf hP hS (lv_sub hl [2, 1, 0] rfl)
def f_X8_meters_b4 : Nat → Int32 → Int32 → fS → Option (Int32 × fS)
  | 0, _, _, _ => none
  | n_ + 1, v1, v2, σ => fb (171 : Int32) 277 ((if (σ 165 (171 : Int32).toNatClampNeg) ≤ v2 then some (v1, σ) else fb v2 24 ((if (σ 178 v2.toNatClampNeg) = (-10004 : Int32) then f_X8_meters_b39 (fun v1 v2 σ => f_X8_meters_b4 n_ v1 v2 σ) (v2) ((0 : Int32)) (v1) σ else fcall (f_X8_vehicleOf v2 (1 : Int32) σ) (fun r1_ σ1 => f_X8_meters_b39 (fun v1 v2 σ => f_X8_meters_b4 n_ v1 v2 σ) (v2) (r1_) (v1) σ1)))))
set_option maxRecDepth 100000 in
set_option maxHeartbeats 4000000 in
theorem w_X8_meters_b4 {r : Int32} {σ' : fS}  (C : fC Γ p s m args meth c cX8_meters (some .int) RX8 3) : ∀ (n_ : Nat) (v1 : Int32) (v2 : Int32) (σ : fS) (H : Heap) (locs : List Loc) (ls : Array Slot), f_X8_meters_b4 n_ v1 v2 σ = some (r, σ') → fH Γ σ H → va_S (fAd Γ) s.heap H locs → lv_has ls 3 [(0, .ref (Γ.1 164)), (1, .int v1), (2, .int v2)] → W p l e ({ frames := 1, cells := 0, slots := 0, locals := 22 } : Room) s m args below meth c H locs 0 0 (MQ below (fQi Γ r σ') args s 0 0 (fAd Γ)) (F0 m 4 ls []) := by
  intro n_
  induction n_ with
  | zero =>
    intro v1 v2 σ H locs ls hf
    cases hf
  | succ n_ ih =>
    intro v1 v2 σ H locs ls hf hP hS hl
    have hf : fb (171 : Int32) 277 ((if (σ 165 (171 : Int32).toNatClampNeg) ≤ v2 then some (v1, σ) else fb v2 24 ((if (σ 178 v2.toNatClampNeg) = (-10004 : Int32) then f_X8_meters_b39 (fun v1 v2 σ => f_X8_meters_b4 n_ v1 v2 σ) (v2) ((0 : Int32)) (v1) σ else fcall (f_X8_vehicleOf v2 (1 : Int32) σ) (fun r1_ σ1 => f_X8_meters_b39 (fun v1 v2 σ => f_X8_meters_b4 n_ v1 v2 σ) (v2) (r1_) (v1) σ1))))) = some (r, σ') := hf
    have hK4 := ih
    refine lv_iload_n C.1 C.2.1 (kd kX8_meters_0 4 rfl) rfl (lv_at hl 2 rfl) ?_
    refine lv_aload_n C.1 C.2.1 (kd kX8_meters_0 5 rfl) rfl (lv_at hl 0 rfl) ?_
    refine fl_get (j := 0) (v := .ref (Γ.1 165)) C hP rfl (Nat.le_of_ble_eq_true rfl) rfl inX8 (Nat.le_of_ble_eq_true rfl) tw_862 rfl (kd kX8_meters_0 6 rfl) ?_
    refine lv_sipush (v := (171 : Int32)) C.1 C.2.1 (kd kX8_meters_0 7 rfl) (by decide) ?_
    obtain ⟨hq, hf⟩ := fb_some hf
    refine fl_iald C hP rfl hq (kd kX8_meters_0 8 rfl) ?_
    refine lv_icmp_ge (tgt := 47) C.1 C.2.1 (kd kX8_meters_0 9 rfl) (by decide) (fun q => ?_) (fun q => ?_)
    · have hf := fif_pos q hf
      refine lv_iload_n C.1 C.2.1 (kd kX8_meters_0 27 rfl) rfl (lv_at hl 1 rfl) ?_
      exact fl_iret C hP hS hf (kd kX8_meters_0 28 rfl)
    have hf := fif_neg q hf
    refine lv_iload_n C.1 C.2.1 (kd kX8_meters_0 10 rfl) rfl (lv_at hl 1 rfl) ?_
    refine lv_aload_n C.1 C.2.1 (kd kX8_meters_0 11 rfl) rfl (lv_at hl 0 rfl) ?_
    refine fl_get (j := 19) (v := .ref (Γ.1 178)) C hP rfl (Nat.le_of_ble_eq_true rfl) rfl inX8 (Nat.le_of_ble_eq_true rfl) tw_881 rfl (kd kX8_meters_0 12 rfl) ?_
    refine lv_iload_n C.1 C.2.1 (kd kX8_meters_0 13 rfl) rfl (lv_at hl 2 rfl) ?_
    obtain ⟨hq, hf⟩ := fb_some hf
    refine fl_iald C hP rfl hq (kd kX8_meters_0 14 rfl) ?_
    refine lv_sipush (v := (-10004 : Int32)) C.1 C.2.1 (kd kX8_meters_0 15 rfl) (by decide) ?_
    refine lv_icmp_ne (tgt := 33) C.1 C.2.1 (kd kX8_meters_0 16 rfl) (by decide) (fun q => ?_) (fun q => ?_)
    · have hf := fif_neg q hf
      refine lv_aload_n C.1 C.2.1 (kd kX8_meters_0 19 rfl) rfl (lv_at hl 0 rfl) ?_
      refine lv_iload_n C.1 C.2.1 (kd kX8_meters_0 20 rfl) rfl (lv_at hl 2 rfl) ?_
      refine lv_iconst (v := (1 : Int32)) C.1 C.2.1 (kd kX8_meters_0 21 rfl) (by decide) ?_
      obtain ⟨r1_, σ1, hσ1, hf⟩ := fcall_some hf
      refine fl_i hS (fl_runV (As := [.int v2, .int (1 : Int32)]) (rest := [.int v1]) C hP rfl (Nat.le_of_ble_eq_true rfl) rfl (m_X8_vehicleOf C.2.2.2.2.2.2.2.2 l  hσ1) (fgV tw_1163 tw_1165 tw_54 tw_75 tw_1166) hd_X8_vehicleOf ⟨rfl, rfl, Nat.le_of_ble_eq_true rfl, Nat.le_of_ble_eq_true rfl⟩ rfl hl.1 rfl (Nat.le_of_ble_eq_true rfl) (kd kX8_meters_0 22 rfl)) (fun H locs hP hS => ?_)
      exact w_X8_meters_b39 C hK4 (v2) (r1_) (v1) σ1 H locs ls hf hP hS (lv_sub hl [0, 2] rfl)
    have hf := fif_pos q hf
    refine lv_iconst (v := (0 : Int32)) C.1 C.2.1 (kd kX8_meters_0 17 rfl) (by decide) ?_
    refine lv_goto (tgt := 39) C.1 C.2.1 (kd kX8_meters_0 18 rfl) (by decide) ?_
    exact w_X8_meters_b39 C hK4 (v2) ((0 : Int32)) (v1) σ H locs ls hf hP hS (lv_sub hl [0, 2] rfl)
def f_X8_meters (σ : fS) : Option (Int32 × fS) := f_X8_meters_b4 fN ((0 : Int32)) ((0 : Int32)) σ
set_option maxRecDepth 100000 in
set_option maxHeartbeats 4000000 in
theorem m_X8_meters {Γ : fGm} (hI : fI Γ) (l : Launch) {σ : fS} {r : Int32} {σ' : fS} (hf : f_X8_meters  σ = some (r, σ')) : Met l yX8_meters (.code yX8_meters cX8_meters 3 (some .int) :: lw_g) ({ frames := 1, cells := 0, slots := 0, locals := 22 } : Room) (fPre Γ [.ref (Γ.1 164)] σ) (fQi Γ r σ') 0 0 (fAd Γ) := by
  refine fl_enter (own := RX8) hI (by decide +kernel) rfl (Nat.le_of_ble_eq_true rfl) ?_
  intro p e s m args below meth c ls C hl hP hS
  have hl : lv_has ls 3 [(0, .ref (Γ.1 164))] := hl
  obtain ⟨H, hH⟩ : ∃ H, H = s.heap := ⟨_, rfl⟩
  obtain ⟨locs, hL⟩ : ∃ L : List Loc, L = [] := ⟨_, rfl⟩
  have hP : fH Γ σ H := by rw [hH]; exact hP
  have hS : va_S (fAd Γ) s.heap H locs := by rw [hH, hL]; exact hS
  suffices hw : W p l e ({ frames := 1, cells := 0, slots := 0, locals := 22 } : Room) s m args below meth c H locs 0 0 (MQ below (fQi Γ r σ') args s 0 0 (fAd Γ)) (F0 m 0 ls []) by rw [hH, hL] at hw; exact hw
  unfold f_X8_meters at hf
  refine lv_iconst (v := (0 : Int32)) C.1 C.2.1 (kd kX8_meters_0 0 rfl) (by decide) ?_
  refine lv_istore_n (lv' := [(1, .int (0 : Int32)), (0, .ref (Γ.1 164))]) C.1 C.2.1 (kd kX8_meters_0 1 rfl) rfl hl (Nat.le_of_ble_eq_true rfl) rfl (fun ls hl => ?_)
  refine lv_iconst (v := (0 : Int32)) C.1 C.2.1 (kd kX8_meters_0 2 rfl) (by decide) ?_
  refine lv_istore_n (lv' := [(2, .int (0 : Int32)), (1, .int (0 : Int32)), (0, .ref (Γ.1 164))]) C.1 C.2.1 (kd kX8_meters_0 3 rfl) rfl hl (Nat.le_of_ble_eq_true rfl) rfl (fun ls hl => ?_)
  exact w_X8_meters_b4 C fN ((0 : Int32)) ((0 : Int32)) σ H locs ls hf hP hS (lv_sub hl [2, 1, 0] rfl)
def f_X8_laneMeters_b52 (K4 : Int32 → Int32 → fS → Option (Int32 × fS)) (v2 : Int32) (s0 : Int32) (s1 : Int32) (σ : fS) : Option (Int32 × fS) := K4 ((s1 + s0)) ((v2 + (1 : Int32))) σ
set_option maxRecDepth 100000 in
set_option maxHeartbeats 4000000 in
theorem w_X8_laneMeters_b52 {r : Int32} {σ' : fS} {K4 : Int32 → Int32 → fS → Option (Int32 × fS)}  (C : fC Γ p s m args meth c cX8_laneMeters (some .int) RX8 3) (hK4 : ∀ (v1 : Int32) (v2 : Int32) (σ : fS) (H : Heap) (locs : List Loc) (ls : Array Slot), K4 v1 v2 σ = some (r, σ') → fH Γ σ H → va_S (fAd Γ) s.heap H locs → lv_has ls 3 [(0, .ref (Γ.1 164)), (1, .int v1), (2, .int v2)] → W p l e ({ frames := 1, cells := 0, slots := 0, locals := 22 } : Room) s m args below meth c H locs 0 0 (MQ below (fQi Γ r σ') args s 0 0 (fAd Γ)) (F0 m 4 ls [])) : ∀ (v2 : Int32) (s0 : Int32) (s1 : Int32) (σ : fS) (H : Heap) (locs : List Loc) (ls : Array Slot), f_X8_laneMeters_b52 K4 v2 s0 s1 σ = some (r, σ') → fH Γ σ H → va_S (fAd Γ) s.heap H locs → lv_has ls 3 [(0, .ref (Γ.1 164)), (2, .int v2)] → W p l e ({ frames := 1, cells := 0, slots := 0, locals := 22 } : Room) s m args below meth c H locs 0 0 (MQ below (fQi Γ r σ') args s 0 0 (fAd Γ)) (F0 m 52 ls [.int s0, .int s1]) := by
  intro v2 s0 s1 σ H locs ls hf hP hS hl
  unfold f_X8_laneMeters_b52 at hf
  refine lv_iadd C.1 C.2.1 (kd kX8_laneMeters_0 33 rfl) ?_
  refine lv_istore_n (lv' := [(1, .int (s1 + s0)), (0, .ref (Γ.1 164)), (2, .int v2)]) C.1 C.2.1 (kd kX8_laneMeters_0 34 rfl) rfl hl (Nat.le_of_ble_eq_true rfl) rfl (fun ls hl => ?_)
  refine lv_iinc (v := (v2 + (1 : Int32))) (lv' := [(2, .int (v2 + (1 : Int32))), (1, .int (s1 + s0)), (0, .ref (Γ.1 164))]) C.1 C.2.1 (kd kX8_laneMeters_0 35 rfl) hl (k := 2) rfl rfl (Nat.le_of_ble_eq_true rfl) rfl (fun ls hl => ?_)
  refine lv_goto (tgt := 4) C.1 C.2.1 (kd kX8_laneMeters_0 36 rfl) (by decide) ?_
  exact hK4 ((s1 + s0)) ((v2 + (1 : Int32))) σ H locs ls hf hP hS (lv_sub hl [2, 1, 0] rfl)
def f_X8_laneMeters_b4 : Nat → Int32 → Int32 → fS → Option (Int32 × fS)
  | 0, _, _, _ => none
  | n_ + 1, v1, v2, σ => fb (122 : Int32) 277 ((if (σ 165 (122 : Int32).toNatClampNeg) ≤ v2 then some (v1, σ) else fb v2 12 ((if (σ 173 v2.toNatClampNeg) = 0 then fcall (f_X8_of v2 (0 : Int32) σ) (fun r1_ σ1 => fcall (f_X8_shipOf r1_ (1 : Int32) σ1) (fun r2_ σ2 => fcall (f_X8_of v2 (0 : Int32) σ2) (fun r3_ σ3 => fcall (f_X8_shipOf r3_ (2 : Int32) σ3) (fun r4_ σ4 => f_X8_laneMeters_b52 (fun v1 v2 σ => f_X8_laneMeters_b4 n_ v1 v2 σ) (v2) ((r2_ * r4_)) (v1) σ4)))) else f_X8_laneMeters_b52 (fun v1 v2 σ => f_X8_laneMeters_b4 n_ v1 v2 σ) (v2) ((0 : Int32)) (v1) σ))))
set_option maxRecDepth 100000 in
set_option maxHeartbeats 4000000 in
theorem w_X8_laneMeters_b4 {r : Int32} {σ' : fS}  (C : fC Γ p s m args meth c cX8_laneMeters (some .int) RX8 3) : ∀ (n_ : Nat) (v1 : Int32) (v2 : Int32) (σ : fS) (H : Heap) (locs : List Loc) (ls : Array Slot), f_X8_laneMeters_b4 n_ v1 v2 σ = some (r, σ') → fH Γ σ H → va_S (fAd Γ) s.heap H locs → lv_has ls 3 [(0, .ref (Γ.1 164)), (1, .int v1), (2, .int v2)] → W p l e ({ frames := 1, cells := 0, slots := 0, locals := 22 } : Room) s m args below meth c H locs 0 0 (MQ below (fQi Γ r σ') args s 0 0 (fAd Γ)) (F0 m 4 ls []) := by
  intro n_
  induction n_ with
  | zero =>
    intro v1 v2 σ H locs ls hf
    cases hf
  | succ n_ ih =>
    intro v1 v2 σ H locs ls hf hP hS hl
    have hf : fb (122 : Int32) 277 ((if (σ 165 (122 : Int32).toNatClampNeg) ≤ v2 then some (v1, σ) else fb v2 12 ((if (σ 173 v2.toNatClampNeg) = 0 then fcall (f_X8_of v2 (0 : Int32) σ) (fun r1_ σ1 => fcall (f_X8_shipOf r1_ (1 : Int32) σ1) (fun r2_ σ2 => fcall (f_X8_of v2 (0 : Int32) σ2) (fun r3_ σ3 => fcall (f_X8_shipOf r3_ (2 : Int32) σ3) (fun r4_ σ4 => f_X8_laneMeters_b52 (fun v1 v2 σ => f_X8_laneMeters_b4 n_ v1 v2 σ) (v2) ((r2_ * r4_)) (v1) σ4)))) else f_X8_laneMeters_b52 (fun v1 v2 σ => f_X8_laneMeters_b4 n_ v1 v2 σ) (v2) ((0 : Int32)) (v1) σ)))) = some (r, σ') := hf
    have hK4 := ih
    refine lv_iload_n C.1 C.2.1 (kd kX8_laneMeters_0 4 rfl) rfl (lv_at hl 2 rfl) ?_
    refine lv_aload_n C.1 C.2.1 (kd kX8_laneMeters_0 5 rfl) rfl (lv_at hl 0 rfl) ?_
    refine fl_get (j := 0) (v := .ref (Γ.1 165)) C hP rfl (Nat.le_of_ble_eq_true rfl) rfl inX8 (Nat.le_of_ble_eq_true rfl) tw_862 rfl (kd kX8_laneMeters_0 6 rfl) ?_
    refine lv_bipush (v := (122 : Int32)) C.1 C.2.1 (kd kX8_laneMeters_0 7 rfl) (by decide) ?_
    obtain ⟨hq, hf⟩ := fb_some hf
    refine fl_iald C hP rfl hq (kd kX8_laneMeters_0 8 rfl) ?_
    refine lv_icmp_ge (tgt := 60) C.1 C.2.1 (kd kX8_laneMeters_0 9 rfl) (by decide) (fun q => ?_) (fun q => ?_)
    · have hf := fif_pos q hf
      refine lv_iload_n C.1 C.2.1 (kd kX8_laneMeters_0 37 rfl) rfl (lv_at hl 1 rfl) ?_
      exact fl_iret C hP hS hf (kd kX8_laneMeters_0 38 rfl)
    have hf := fif_neg q hf
    refine lv_iload_n C.1 C.2.1 (kd kX8_laneMeters_0 10 rfl) rfl (lv_at hl 1 rfl) ?_
    refine lv_aload_n C.1 C.2.1 (kd kX8_laneMeters_0 11 rfl) rfl (lv_at hl 0 rfl) ?_
    refine fl_get (j := 14) (v := .ref (Γ.1 173)) C hP rfl (Nat.le_of_ble_eq_true rfl) rfl inX8 (Nat.le_of_ble_eq_true rfl) tw_876 rfl (kd kX8_laneMeters_0 12 rfl) ?_
    refine lv_iload_n C.1 C.2.1 (kd kX8_laneMeters_0 13 rfl) rfl (lv_at hl 2 rfl) ?_
    obtain ⟨hq, hf⟩ := fb_some hf
    refine fl_iald C hP rfl hq (kd kX8_laneMeters_0 14 rfl) ?_
    refine lv_if_ne (tgt := 51) C.1 C.2.1 (kd kX8_laneMeters_0 15 rfl) (by decide) (fun q => ?_) (fun q => ?_)
    · have hf := fif_neg q hf
      refine lv_iconst (v := (0 : Int32)) C.1 C.2.1 (kd kX8_laneMeters_0 32 rfl) (by decide) ?_
      exact w_X8_laneMeters_b52 C hK4 (v2) ((0 : Int32)) (v1) σ H locs ls hf hP hS (lv_sub hl [0, 2] rfl)
    have hf := fif_pos q hf
    refine lv_aload_n C.1 C.2.1 (kd kX8_laneMeters_0 16 rfl) rfl (lv_at hl 0 rfl) ?_
    refine lv_aload_n C.1 C.2.1 (kd kX8_laneMeters_0 17 rfl) rfl (lv_at hl 0 rfl) ?_
    refine lv_iload_n C.1 C.2.1 (kd kX8_laneMeters_0 18 rfl) rfl (lv_at hl 2 rfl) ?_
    refine lv_iconst (v := (0 : Int32)) C.1 C.2.1 (kd kX8_laneMeters_0 19 rfl) (by decide) ?_
    obtain ⟨r1_, σ1, hσ1, hf⟩ := fcall_some hf
    refine fl_i hS (fl_runV (As := [.int v2, .int (0 : Int32)]) (rest := [.ref (Γ.1 164), .int v1]) C hP rfl (Nat.le_of_ble_eq_true rfl) rfl (m_X8_of C.2.2.2.2.2.2.2.2 l  hσ1) (fgV tw_1118 tw_1120 tw_43 tw_75 tw_1121) hd_X8_of ⟨rfl, rfl, Nat.le_of_ble_eq_true rfl, Nat.le_of_ble_eq_true rfl⟩ rfl hl.1 rfl (Nat.le_of_ble_eq_true rfl) (kd kX8_laneMeters_0 20 rfl)) (fun H locs hP hS => ?_)
    refine lv_iconst (v := (1 : Int32)) C.1 C.2.1 (kd kX8_laneMeters_0 21 rfl) (by decide) ?_
    obtain ⟨r2_, σ2, hσ2, hf⟩ := fcall_some hf
    refine fl_i hS (fl_runV (As := [.int r1_, .int (1 : Int32)]) (rest := [.int v1]) C hP rfl (Nat.le_of_ble_eq_true rfl) rfl (m_X8_shipOf C.2.2.2.2.2.2.2.2 l  hσ2) (fgV tw_1102 tw_1104 tw_39 tw_75 tw_1105) hd_X8_shipOf ⟨rfl, rfl, Nat.le_of_ble_eq_true rfl, Nat.le_of_ble_eq_true rfl⟩ rfl hl.1 rfl (Nat.le_of_ble_eq_true rfl) (kd kX8_laneMeters_0 22 rfl)) (fun H locs hP hS => ?_)
    refine lv_aload_n C.1 C.2.1 (kd kX8_laneMeters_0 23 rfl) rfl (lv_at hl 0 rfl) ?_
    refine lv_aload_n C.1 C.2.1 (kd kX8_laneMeters_0 24 rfl) rfl (lv_at hl 0 rfl) ?_
    refine lv_iload_n C.1 C.2.1 (kd kX8_laneMeters_0 25 rfl) rfl (lv_at hl 2 rfl) ?_
    refine lv_iconst (v := (0 : Int32)) C.1 C.2.1 (kd kX8_laneMeters_0 26 rfl) (by decide) ?_
    obtain ⟨r3_, σ3, hσ3, hf⟩ := fcall_some hf
    refine fl_i hS (fl_runV (As := [.int v2, .int (0 : Int32)]) (rest := [.ref (Γ.1 164), .int r2_, .int v1]) C hP rfl (Nat.le_of_ble_eq_true rfl) rfl (m_X8_of C.2.2.2.2.2.2.2.2 l  hσ3) (fgV tw_1118 tw_1120 tw_43 tw_75 tw_1121) hd_X8_of ⟨rfl, rfl, Nat.le_of_ble_eq_true rfl, Nat.le_of_ble_eq_true rfl⟩ rfl hl.1 rfl (Nat.le_of_ble_eq_true rfl) (kd kX8_laneMeters_0 27 rfl)) (fun H locs hP hS => ?_)
    refine lv_iconst (v := (2 : Int32)) C.1 C.2.1 (kd kX8_laneMeters_0 28 rfl) (by decide) ?_
    obtain ⟨r4_, σ4, hσ4, hf⟩ := fcall_some hf
    refine fl_i hS (fl_runV (As := [.int r3_, .int (2 : Int32)]) (rest := [.int r2_, .int v1]) C hP rfl (Nat.le_of_ble_eq_true rfl) rfl (m_X8_shipOf C.2.2.2.2.2.2.2.2 l  hσ4) (fgV tw_1102 tw_1104 tw_39 tw_75 tw_1105) hd_X8_shipOf ⟨rfl, rfl, Nat.le_of_ble_eq_true rfl, Nat.le_of_ble_eq_true rfl⟩ rfl hl.1 rfl (Nat.le_of_ble_eq_true rfl) (kd kX8_laneMeters_0 29 rfl)) (fun H locs hP hS => ?_)
    refine lv_imul C.1 C.2.1 (kd kX8_laneMeters_0 30 rfl) ?_
    refine lv_goto (tgt := 52) C.1 C.2.1 (kd kX8_laneMeters_0 31 rfl) (by decide) ?_
    exact w_X8_laneMeters_b52 C hK4 (v2) ((r2_ * r4_)) (v1) σ4 H locs ls hf hP hS (lv_sub hl [0, 2] rfl)
def f_X8_laneMeters (σ : fS) : Option (Int32 × fS) := f_X8_laneMeters_b4 fN ((0 : Int32)) ((0 : Int32)) σ
set_option maxRecDepth 100000 in
set_option maxHeartbeats 4000000 in
theorem m_X8_laneMeters {Γ : fGm} (hI : fI Γ) (l : Launch) {σ : fS} {r : Int32} {σ' : fS} (hf : f_X8_laneMeters  σ = some (r, σ')) : Met l yX8_laneMeters (.code yX8_laneMeters cX8_laneMeters 3 (some .int) :: lw_g) ({ frames := 1, cells := 0, slots := 0, locals := 22 } : Room) (fPre Γ [.ref (Γ.1 164)] σ) (fQi Γ r σ') 0 0 (fAd Γ) := by
  refine fl_enter (own := RX8) hI (by decide +kernel) rfl (Nat.le_of_ble_eq_true rfl) ?_
  intro p e s m args below meth c ls C hl hP hS
  have hl : lv_has ls 3 [(0, .ref (Γ.1 164))] := hl
  obtain ⟨H, hH⟩ : ∃ H, H = s.heap := ⟨_, rfl⟩
  obtain ⟨locs, hL⟩ : ∃ L : List Loc, L = [] := ⟨_, rfl⟩
  have hP : fH Γ σ H := by rw [hH]; exact hP
  have hS : va_S (fAd Γ) s.heap H locs := by rw [hH, hL]; exact hS
  suffices hw : W p l e ({ frames := 1, cells := 0, slots := 0, locals := 22 } : Room) s m args below meth c H locs 0 0 (MQ below (fQi Γ r σ') args s 0 0 (fAd Γ)) (F0 m 0 ls []) by rw [hH, hL] at hw; exact hw
  unfold f_X8_laneMeters at hf
  refine lv_iconst (v := (0 : Int32)) C.1 C.2.1 (kd kX8_laneMeters_0 0 rfl) (by decide) ?_
  refine lv_istore_n (lv' := [(1, .int (0 : Int32)), (0, .ref (Γ.1 164))]) C.1 C.2.1 (kd kX8_laneMeters_0 1 rfl) rfl hl (Nat.le_of_ble_eq_true rfl) rfl (fun ls hl => ?_)
  refine lv_iconst (v := (0 : Int32)) C.1 C.2.1 (kd kX8_laneMeters_0 2 rfl) (by decide) ?_
  refine lv_istore_n (lv' := [(2, .int (0 : Int32)), (1, .int (0 : Int32)), (0, .ref (Γ.1 164))]) C.1 C.2.1 (kd kX8_laneMeters_0 3 rfl) rfl hl (Nat.le_of_ble_eq_true rfl) rfl (fun ls hl => ?_)
  exact w_X8_laneMeters_b4 C fN ((0 : Int32)) ((0 : Int32)) σ H locs ls hf hP hS (lv_sub hl [2, 1, 0] rfl)
def f_X8_passengers_b45 (K4 : Int32 → Int32 → Int32 → fS → Option (Int32 × fS)) (v1 : Int32) (v3 : Int32) (s0 : Int32) (s1 : Int32) (σ : fS) : Option (Int32 × fS) := K4 (v1) ((s1 + s0)) ((v3 + (1 : Int32))) σ
set_option maxRecDepth 100000 in
set_option maxHeartbeats 4000000 in
theorem w_X8_passengers_b45 {r : Int32} {σ' : fS} {K4 : Int32 → Int32 → Int32 → fS → Option (Int32 × fS)}  (C : fC Γ p s m args meth c cX8_passengers (some .int) RX8 4) (hK4 : ∀ (v1 : Int32) (v2 : Int32) (v3 : Int32) (σ : fS) (H : Heap) (locs : List Loc) (ls : Array Slot), K4 v1 v2 v3 σ = some (r, σ') → fH Γ σ H → va_S (fAd Γ) s.heap H locs → lv_has ls 4 [(0, .ref (Γ.1 164)), (1, .int v1), (2, .int v2), (3, .int v3)] → W p l e ({ frames := 5, cells := 0, slots := 0, locals := 114 } : Room) s m args below meth c H locs 0 0 (MQ below (fQi Γ r σ') args s 0 0 (fAd Γ)) (F0 m 4 ls [])) : ∀ (v1 : Int32) (v3 : Int32) (s0 : Int32) (s1 : Int32) (σ : fS) (H : Heap) (locs : List Loc) (ls : Array Slot), f_X8_passengers_b45 K4 v1 v3 s0 s1 σ = some (r, σ') → fH Γ σ H → va_S (fAd Γ) s.heap H locs → lv_has ls 4 [(0, .ref (Γ.1 164)), (1, .int v1), (3, .int v3)] → W p l e ({ frames := 5, cells := 0, slots := 0, locals := 114 } : Room) s m args below meth c H locs 0 0 (MQ below (fQi Γ r σ') args s 0 0 (fAd Γ)) (F0 m 45 ls [.int s0, .int s1]) := by
  intro v1 v3 s0 s1 σ H locs ls hf hP hS hl
  unfold f_X8_passengers_b45 at hf
  refine lv_iadd C.1 C.2.1 (kd kX8_passengers_0 27 rfl) ?_
  refine lv_istore_n (lv' := [(2, .int (s1 + s0)), (0, .ref (Γ.1 164)), (1, .int v1), (3, .int v3)]) C.1 C.2.1 (kd kX8_passengers_0 28 rfl) rfl hl (Nat.le_of_ble_eq_true rfl) rfl (fun ls hl => ?_)
  refine lv_iinc (v := (v3 + (1 : Int32))) (lv' := [(3, .int (v3 + (1 : Int32))), (2, .int (s1 + s0)), (0, .ref (Γ.1 164)), (1, .int v1)]) C.1 C.2.1 (kd kX8_passengers_0 29 rfl) hl (k := 3) rfl rfl (Nat.le_of_ble_eq_true rfl) rfl (fun ls hl => ?_)
  refine lv_goto (tgt := 4) C.1 C.2.1 (kd kX8_passengers_0 30 rfl) (by decide) ?_
  exact hK4 (v1) ((s1 + s0)) ((v3 + (1 : Int32))) σ H locs ls hf hP hS (lv_sub hl [2, 3, 1, 0] rfl)
def f_X8_passengers_b31 (K4 : Int32 → Int32 → Int32 → fS → Option (Int32 × fS)) (v1 : Int32) (v3 : Int32) (s0 : Int32) (s1 : Int32) (σ : fS) : Option (Int32 × fS) := (if s0 = v1 then fcall (f_X8_connectionOf v3 (3 : Int32) σ) (fun r1_ σ1 => f_X8_passengers_b45 K4 (v1) (v3) (r1_) (s1) σ1) else f_X8_passengers_b45 K4 (v1) (v3) ((0 : Int32)) (s1) σ)
set_option maxRecDepth 100000 in
set_option maxHeartbeats 4000000 in
theorem w_X8_passengers_b31 {r : Int32} {σ' : fS} {K4 : Int32 → Int32 → Int32 → fS → Option (Int32 × fS)}  (C : fC Γ p s m args meth c cX8_passengers (some .int) RX8 4) (hK4 : ∀ (v1 : Int32) (v2 : Int32) (v3 : Int32) (σ : fS) (H : Heap) (locs : List Loc) (ls : Array Slot), K4 v1 v2 v3 σ = some (r, σ') → fH Γ σ H → va_S (fAd Γ) s.heap H locs → lv_has ls 4 [(0, .ref (Γ.1 164)), (1, .int v1), (2, .int v2), (3, .int v3)] → W p l e ({ frames := 5, cells := 0, slots := 0, locals := 114 } : Room) s m args below meth c H locs 0 0 (MQ below (fQi Γ r σ') args s 0 0 (fAd Γ)) (F0 m 4 ls [])) : ∀ (v1 : Int32) (v3 : Int32) (s0 : Int32) (s1 : Int32) (σ : fS) (H : Heap) (locs : List Loc) (ls : Array Slot), f_X8_passengers_b31 K4 v1 v3 s0 s1 σ = some (r, σ') → fH Γ σ H → va_S (fAd Γ) s.heap H locs → lv_has ls 4 [(0, .ref (Γ.1 164)), (1, .int v1), (3, .int v3)] → W p l e ({ frames := 5, cells := 0, slots := 0, locals := 114 } : Room) s m args below meth c H locs 0 0 (MQ below (fQi Γ r σ') args s 0 0 (fAd Γ)) (F0 m 31 ls [.int s0, .int s1]) := by
  intro v1 v3 s0 s1 σ H locs ls hf hP hS hl
  unfold f_X8_passengers_b31 at hf
  refine lv_iload_n C.1 C.2.1 (kd kX8_passengers_0 19 rfl) rfl (lv_at hl 1 rfl) ?_
  refine lv_icmp_ne (tgt := 44) C.1 C.2.1 (kd kX8_passengers_0 20 rfl) (by decide) (fun q => ?_) (fun q => ?_)
  · have hf := fif_neg q hf
    refine lv_iconst (v := (0 : Int32)) C.1 C.2.1 (kd kX8_passengers_0 26 rfl) (by decide) ?_
    exact w_X8_passengers_b45 C hK4 (v1) (v3) ((0 : Int32)) (s1) σ H locs ls hf hP hS (lv_sub hl [0, 1, 2] rfl)
  have hf := fif_pos q hf
  refine lv_aload_n C.1 C.2.1 (kd kX8_passengers_0 21 rfl) rfl (lv_at hl 0 rfl) ?_
  refine lv_iload_n C.1 C.2.1 (kd kX8_passengers_0 22 rfl) rfl (lv_at hl 2 rfl) ?_
  refine lv_iconst (v := (3 : Int32)) C.1 C.2.1 (kd kX8_passengers_0 23 rfl) (by decide) ?_
  obtain ⟨r1_, σ1, hσ1, hf⟩ := fcall_some hf
  refine fl_i hS (fl_runV (As := [.int v3, .int (3 : Int32)]) (rest := [.int s1]) C hP rfl (Nat.le_of_ble_eq_true rfl) rfl (m_X8_connectionOf C.2.2.2.2.2.2.2.2 l  hσ1) (fgV tw_1155 tw_1157 tw_52 tw_75 tw_1158) hd_X8_connectionOf ⟨rfl, rfl, Nat.le_of_ble_eq_true rfl, Nat.le_of_ble_eq_true rfl⟩ rfl hl.1 rfl (Nat.le_of_ble_eq_true rfl) (kd kX8_passengers_0 24 rfl)) (fun H locs hP hS => ?_)
  refine lv_goto (tgt := 45) C.1 C.2.1 (kd kX8_passengers_0 25 rfl) (by decide) ?_
  exact w_X8_passengers_b45 C hK4 (v1) (v3) (r1_) (s1) σ1 H locs ls hf hP hS (lv_sub hl [0, 1, 2] rfl)
def f_X8_passengers_b4 : Nat → Int32 → Int32 → Int32 → fS → Option (Int32 × fS)
  | 0, _, _, _, _ => none
  | n_ + 1, v1, v2, v3, σ => fb (244 : Int32) 277 ((if (σ 165 (244 : Int32).toNatClampNeg) ≤ v3 then some (v2, σ) else fcall (f_X8_kindOf v3 σ) (fun r1_ σ1 => (if r1_ = (2 : Int32) then f_X8_passengers_b31 (fun v1 v2 v3 σ => f_X8_passengers_b4 n_ v1 v2 v3 σ) (v1) (v3) ((0 : Int32)) (v2) σ1 else f_X8_passengers_b31 (fun v1 v2 v3 σ => f_X8_passengers_b4 n_ v1 v2 v3 σ) (v1) (v3) ((1 : Int32)) (v2) σ1))))
set_option maxRecDepth 100000 in
set_option maxHeartbeats 4000000 in
theorem w_X8_passengers_b4 {r : Int32} {σ' : fS}  (C : fC Γ p s m args meth c cX8_passengers (some .int) RX8 4) : ∀ (n_ : Nat) (v1 : Int32) (v2 : Int32) (v3 : Int32) (σ : fS) (H : Heap) (locs : List Loc) (ls : Array Slot), f_X8_passengers_b4 n_ v1 v2 v3 σ = some (r, σ') → fH Γ σ H → va_S (fAd Γ) s.heap H locs → lv_has ls 4 [(0, .ref (Γ.1 164)), (1, .int v1), (2, .int v2), (3, .int v3)] → W p l e ({ frames := 5, cells := 0, slots := 0, locals := 114 } : Room) s m args below meth c H locs 0 0 (MQ below (fQi Γ r σ') args s 0 0 (fAd Γ)) (F0 m 4 ls []) := by
  intro n_
  induction n_ with
  | zero =>
    intro v1 v2 v3 σ H locs ls hf
    cases hf
  | succ n_ ih =>
    intro v1 v2 v3 σ H locs ls hf hP hS hl
    have hf : fb (244 : Int32) 277 ((if (σ 165 (244 : Int32).toNatClampNeg) ≤ v3 then some (v2, σ) else fcall (f_X8_kindOf v3 σ) (fun r1_ σ1 => (if r1_ = (2 : Int32) then f_X8_passengers_b31 (fun v1 v2 v3 σ => f_X8_passengers_b4 n_ v1 v2 v3 σ) (v1) (v3) ((0 : Int32)) (v2) σ1 else f_X8_passengers_b31 (fun v1 v2 v3 σ => f_X8_passengers_b4 n_ v1 v2 v3 σ) (v1) (v3) ((1 : Int32)) (v2) σ1)))) = some (r, σ') := hf
    have hK4 := ih
    refine lv_iload_n C.1 C.2.1 (kd kX8_passengers_0 4 rfl) rfl (lv_at hl 3 rfl) ?_
    refine lv_aload_n C.1 C.2.1 (kd kX8_passengers_0 5 rfl) rfl (lv_at hl 0 rfl) ?_
    refine fl_get (j := 0) (v := .ref (Γ.1 165)) C hP rfl (Nat.le_of_ble_eq_true rfl) rfl inX8 (Nat.le_of_ble_eq_true rfl) tw_862 rfl (kd kX8_passengers_0 6 rfl) ?_
    refine lv_sipush (v := (244 : Int32)) C.1 C.2.1 (kd kX8_passengers_0 7 rfl) (by decide) ?_
    obtain ⟨hq, hf⟩ := fb_some hf
    refine fl_iald C hP rfl hq (kd kX8_passengers_0 8 rfl) ?_
    refine lv_icmp_ge (tgt := 53) C.1 C.2.1 (kd kX8_passengers_0 9 rfl) (by decide) (fun q => ?_) (fun q => ?_)
    · have hf := fif_pos q hf
      refine lv_iload_n C.1 C.2.1 (kd kX8_passengers_0 31 rfl) rfl (lv_at hl 2 rfl) ?_
      exact fl_iret C hP hS hf (kd kX8_passengers_0 32 rfl)
    have hf := fif_neg q hf
    refine lv_iload_n C.1 C.2.1 (kd kX8_passengers_0 10 rfl) rfl (lv_at hl 2 rfl) ?_
    refine lv_aload_n C.1 C.2.1 (kd kX8_passengers_0 11 rfl) rfl (lv_at hl 0 rfl) ?_
    refine lv_iload_n C.1 C.2.1 (kd kX8_passengers_0 12 rfl) rfl (lv_at hl 3 rfl) ?_
    obtain ⟨r1_, σ1, hσ1, hf⟩ := fcall_some hf
    refine fl_i hS (fl_runV (As := [.int v3]) (rest := [.int v2]) C hP rfl (Nat.le_of_ble_eq_true rfl) rfl (m_X8_kindOf C.2.2.2.2.2.2.2.2 l  hσ1) (fgV tw_1159 tw_1161 tw_53 tw_75 tw_1162) hd_X8_kindOf ⟨rfl, rfl, Nat.le_of_ble_eq_true rfl, Nat.le_of_ble_eq_true rfl⟩ rfl hl.1 rfl (Nat.le_of_ble_eq_true rfl) (kd kX8_passengers_0 13 rfl)) (fun H locs hP hS => ?_)
    refine lv_iconst (v := (2 : Int32)) C.1 C.2.1 (kd kX8_passengers_0 14 rfl) (by decide) ?_
    refine lv_icmp_eq (tgt := 30) C.1 C.2.1 (kd kX8_passengers_0 15 rfl) (by decide) (fun q => ?_) (fun q => ?_)
    · have hf := fif_pos q hf
      refine lv_iconst (v := (0 : Int32)) C.1 C.2.1 (kd kX8_passengers_0 18 rfl) (by decide) ?_
      exact w_X8_passengers_b31 C hK4 (v1) (v3) ((0 : Int32)) (v2) σ1 H locs ls hf hP hS (lv_sub hl [0, 1, 3] rfl)
    have hf := fif_neg q hf
    refine lv_iconst (v := (1 : Int32)) C.1 C.2.1 (kd kX8_passengers_0 16 rfl) (by decide) ?_
    refine lv_goto (tgt := 31) C.1 C.2.1 (kd kX8_passengers_0 17 rfl) (by decide) ?_
    exact w_X8_passengers_b31 C hK4 (v1) (v3) ((1 : Int32)) (v2) σ1 H locs ls hf hP hS (lv_sub hl [0, 1, 3] rfl)
def f_X8_passengers (x1 : Int32) (σ : fS) : Option (Int32 × fS) := f_X8_passengers_b4 fN (x1) ((0 : Int32)) ((0 : Int32)) σ
set_option maxRecDepth 100000 in
set_option maxHeartbeats 4000000 in
theorem m_X8_passengers {Γ : fGm} (hI : fI Γ) (l : Launch) {x1 : Int32} {σ : fS} {r : Int32} {σ' : fS} (hf : f_X8_passengers x1 σ = some (r, σ')) : Met l yX8_passengers (.code yX8_passengers cX8_passengers 4 (some .int) :: lw_g) ({ frames := 5, cells := 0, slots := 0, locals := 114 } : Room) (fPre Γ [.ref (Γ.1 164), .int x1] σ) (fQi Γ r σ') 0 0 (fAd Γ) := by
  refine fl_enter (own := RX8) hI (by decide +kernel) rfl (Nat.le_of_ble_eq_true rfl) ?_
  intro p e s m args below meth c ls C hl hP hS
  have hl : lv_has ls 4 [(0, .ref (Γ.1 164)), (1, .int x1)] := hl
  obtain ⟨H, hH⟩ : ∃ H, H = s.heap := ⟨_, rfl⟩
  obtain ⟨locs, hL⟩ : ∃ L : List Loc, L = [] := ⟨_, rfl⟩
  have hP : fH Γ σ H := by rw [hH]; exact hP
  have hS : va_S (fAd Γ) s.heap H locs := by rw [hH, hL]; exact hS
  suffices hw : W p l e ({ frames := 5, cells := 0, slots := 0, locals := 114 } : Room) s m args below meth c H locs 0 0 (MQ below (fQi Γ r σ') args s 0 0 (fAd Γ)) (F0 m 0 ls []) by rw [hH, hL] at hw; exact hw
  unfold f_X8_passengers at hf
  refine lv_iconst (v := (0 : Int32)) C.1 C.2.1 (kd kX8_passengers_0 0 rfl) (by decide) ?_
  refine lv_istore_n (lv' := [(2, .int (0 : Int32)), (0, .ref (Γ.1 164)), (1, .int x1)]) C.1 C.2.1 (kd kX8_passengers_0 1 rfl) rfl hl (Nat.le_of_ble_eq_true rfl) rfl (fun ls hl => ?_)
  refine lv_iconst (v := (0 : Int32)) C.1 C.2.1 (kd kX8_passengers_0 2 rfl) (by decide) ?_
  refine lv_istore_n (lv' := [(3, .int (0 : Int32)), (2, .int (0 : Int32)), (0, .ref (Γ.1 164)), (1, .int x1)]) C.1 C.2.1 (kd kX8_passengers_0 3 rfl) rfl hl (Nat.le_of_ble_eq_true rfl) rfl (fun ls hl => ?_)
  exact w_X8_passengers_b4 C fN (x1) ((0 : Int32)) ((0 : Int32)) σ H locs ls hf hP hS (lv_sub hl [2, 3, 1, 0] rfl)
def f_X8_allAboard_b34 (K4 : Int32 → Int32 → fS → Option (Int32 × fS)) (v2 : Int32) (s0 : Int32) (s1 : Int32) (σ : fS) : Option (Int32 × fS) := K4 ((s1 + s0)) ((v2 + (1 : Int32))) σ
set_option maxRecDepth 100000 in
set_option maxHeartbeats 4000000 in
theorem w_X8_allAboard_b34 {r : Int32} {σ' : fS} {K4 : Int32 → Int32 → fS → Option (Int32 × fS)}  (C : fC Γ p s m args meth c cX8_allAboard (some .int) RX8 3) (hK4 : ∀ (v1 : Int32) (v2 : Int32) (σ : fS) (H : Heap) (locs : List Loc) (ls : Array Slot), K4 v1 v2 σ = some (r, σ') → fH Γ σ H → va_S (fAd Γ) s.heap H locs → lv_has ls 3 [(0, .ref (Γ.1 164)), (1, .int v1), (2, .int v2)] → W p l e ({ frames := 0, cells := 0, slots := 0, locals := 0 } : Room) s m args below meth c H locs 0 0 (MQ below (fQi Γ r σ') args s 0 0 (fAd Γ)) (F0 m 4 ls [])) : ∀ (v2 : Int32) (s0 : Int32) (s1 : Int32) (σ : fS) (H : Heap) (locs : List Loc) (ls : Array Slot), f_X8_allAboard_b34 K4 v2 s0 s1 σ = some (r, σ') → fH Γ σ H → va_S (fAd Γ) s.heap H locs → lv_has ls 3 [(0, .ref (Γ.1 164)), (2, .int v2)] → W p l e ({ frames := 0, cells := 0, slots := 0, locals := 0 } : Room) s m args below meth c H locs 0 0 (MQ below (fQi Γ r σ') args s 0 0 (fAd Γ)) (F0 m 34 ls [.int s0, .int s1]) := by
  intro v2 s0 s1 σ H locs ls hf hP hS hl
  unfold f_X8_allAboard_b34 at hf
  refine lv_iadd C.1 C.2.1 (kd kX8_allAboard_0 20 rfl) ?_
  refine lv_istore_n (lv' := [(1, .int (s1 + s0)), (0, .ref (Γ.1 164)), (2, .int v2)]) C.1 C.2.1 (kd kX8_allAboard_0 21 rfl) rfl hl (Nat.le_of_ble_eq_true rfl) rfl (fun ls hl => ?_)
  refine lv_iinc (v := (v2 + (1 : Int32))) (lv' := [(2, .int (v2 + (1 : Int32))), (1, .int (s1 + s0)), (0, .ref (Γ.1 164))]) C.1 C.2.1 (kd kX8_allAboard_0 22 rfl) hl (k := 2) rfl rfl (Nat.le_of_ble_eq_true rfl) rfl (fun ls hl => ?_)
  refine lv_goto (tgt := 4) C.1 C.2.1 (kd kX8_allAboard_0 23 rfl) (by decide) ?_
  exact hK4 ((s1 + s0)) ((v2 + (1 : Int32))) σ H locs ls hf hP hS (lv_sub hl [2, 1, 0] rfl)
def f_X8_allAboard_b4 : Nat → Int32 → Int32 → fS → Option (Int32 × fS)
  | 0, _, _, _ => none
  | n_ + 1, v1, v2, σ => fb (171 : Int32) 277 ((if (σ 165 (171 : Int32).toNatClampNeg) ≤ v2 then some (v1, σ) else fb v2 24 ((if (σ 178 v2.toNatClampNeg) = (-10004 : Int32) then f_X8_allAboard_b34 (fun v1 v2 σ => f_X8_allAboard_b4 n_ v1 v2 σ) (v2) ((0 : Int32)) (v1) σ else f_X8_allAboard_b34 (fun v1 v2 σ => f_X8_allAboard_b4 n_ v1 v2 σ) (v2) ((1 : Int32)) (v1) σ))))
set_option maxRecDepth 100000 in
set_option maxHeartbeats 4000000 in
theorem w_X8_allAboard_b4 {r : Int32} {σ' : fS}  (C : fC Γ p s m args meth c cX8_allAboard (some .int) RX8 3) : ∀ (n_ : Nat) (v1 : Int32) (v2 : Int32) (σ : fS) (H : Heap) (locs : List Loc) (ls : Array Slot), f_X8_allAboard_b4 n_ v1 v2 σ = some (r, σ') → fH Γ σ H → va_S (fAd Γ) s.heap H locs → lv_has ls 3 [(0, .ref (Γ.1 164)), (1, .int v1), (2, .int v2)] → W p l e ({ frames := 0, cells := 0, slots := 0, locals := 0 } : Room) s m args below meth c H locs 0 0 (MQ below (fQi Γ r σ') args s 0 0 (fAd Γ)) (F0 m 4 ls []) := by
  intro n_
  induction n_ with
  | zero =>
    intro v1 v2 σ H locs ls hf
    cases hf
  | succ n_ ih =>
    intro v1 v2 σ H locs ls hf hP hS hl
    have hf : fb (171 : Int32) 277 ((if (σ 165 (171 : Int32).toNatClampNeg) ≤ v2 then some (v1, σ) else fb v2 24 ((if (σ 178 v2.toNatClampNeg) = (-10004 : Int32) then f_X8_allAboard_b34 (fun v1 v2 σ => f_X8_allAboard_b4 n_ v1 v2 σ) (v2) ((0 : Int32)) (v1) σ else f_X8_allAboard_b34 (fun v1 v2 σ => f_X8_allAboard_b4 n_ v1 v2 σ) (v2) ((1 : Int32)) (v1) σ)))) = some (r, σ') := hf
    have hK4 := ih
    refine lv_iload_n C.1 C.2.1 (kd kX8_allAboard_0 4 rfl) rfl (lv_at hl 2 rfl) ?_
    refine lv_aload_n C.1 C.2.1 (kd kX8_allAboard_0 5 rfl) rfl (lv_at hl 0 rfl) ?_
    refine fl_get (j := 0) (v := .ref (Γ.1 165)) C hP rfl (Nat.le_of_ble_eq_true rfl) rfl inX8 (Nat.le_of_ble_eq_true rfl) tw_862 rfl (kd kX8_allAboard_0 6 rfl) ?_
    refine lv_sipush (v := (171 : Int32)) C.1 C.2.1 (kd kX8_allAboard_0 7 rfl) (by decide) ?_
    obtain ⟨hq, hf⟩ := fb_some hf
    refine fl_iald C hP rfl hq (kd kX8_allAboard_0 8 rfl) ?_
    refine lv_icmp_ge (tgt := 42) C.1 C.2.1 (kd kX8_allAboard_0 9 rfl) (by decide) (fun q => ?_) (fun q => ?_)
    · have hf := fif_pos q hf
      refine lv_iload_n C.1 C.2.1 (kd kX8_allAboard_0 24 rfl) rfl (lv_at hl 1 rfl) ?_
      exact fl_iret C hP hS hf (kd kX8_allAboard_0 25 rfl)
    have hf := fif_neg q hf
    refine lv_iload_n C.1 C.2.1 (kd kX8_allAboard_0 10 rfl) rfl (lv_at hl 1 rfl) ?_
    refine lv_aload_n C.1 C.2.1 (kd kX8_allAboard_0 11 rfl) rfl (lv_at hl 0 rfl) ?_
    refine fl_get (j := 19) (v := .ref (Γ.1 178)) C hP rfl (Nat.le_of_ble_eq_true rfl) rfl inX8 (Nat.le_of_ble_eq_true rfl) tw_881 rfl (kd kX8_allAboard_0 12 rfl) ?_
    refine lv_iload_n C.1 C.2.1 (kd kX8_allAboard_0 13 rfl) rfl (lv_at hl 2 rfl) ?_
    obtain ⟨hq, hf⟩ := fb_some hf
    refine fl_iald C hP rfl hq (kd kX8_allAboard_0 14 rfl) ?_
    refine lv_sipush (v := (-10004 : Int32)) C.1 C.2.1 (kd kX8_allAboard_0 15 rfl) (by decide) ?_
    refine lv_icmp_ne (tgt := 33) C.1 C.2.1 (kd kX8_allAboard_0 16 rfl) (by decide) (fun q => ?_) (fun q => ?_)
    · have hf := fif_neg q hf
      refine lv_iconst (v := (1 : Int32)) C.1 C.2.1 (kd kX8_allAboard_0 19 rfl) (by decide) ?_
      exact w_X8_allAboard_b34 C hK4 (v2) ((1 : Int32)) (v1) σ H locs ls hf hP hS (lv_sub hl [0, 2] rfl)
    have hf := fif_pos q hf
    refine lv_iconst (v := (0 : Int32)) C.1 C.2.1 (kd kX8_allAboard_0 17 rfl) (by decide) ?_
    refine lv_goto (tgt := 34) C.1 C.2.1 (kd kX8_allAboard_0 18 rfl) (by decide) ?_
    exact w_X8_allAboard_b34 C hK4 (v2) ((0 : Int32)) (v1) σ H locs ls hf hP hS (lv_sub hl [0, 2] rfl)
def f_X8_allAboard (σ : fS) : Option (Int32 × fS) := f_X8_allAboard_b4 fN ((0 : Int32)) ((0 : Int32)) σ
set_option maxRecDepth 100000 in
set_option maxHeartbeats 4000000 in
theorem m_X8_allAboard {Γ : fGm} (hI : fI Γ) (l : Launch) {σ : fS} {r : Int32} {σ' : fS} (hf : f_X8_allAboard  σ = some (r, σ')) : Met l yX8_allAboard (.code yX8_allAboard cX8_allAboard 3 (some .int) :: lw_g) ({ frames := 0, cells := 0, slots := 0, locals := 0 } : Room) (fPre Γ [.ref (Γ.1 164)] σ) (fQi Γ r σ') 0 0 (fAd Γ) := by
  refine fl_enter (own := RX8) hI (by decide +kernel) rfl (Nat.le_of_ble_eq_true rfl) ?_
  intro p e s m args below meth c ls C hl hP hS
  have hl : lv_has ls 3 [(0, .ref (Γ.1 164))] := hl
  obtain ⟨H, hH⟩ : ∃ H, H = s.heap := ⟨_, rfl⟩
  obtain ⟨locs, hL⟩ : ∃ L : List Loc, L = [] := ⟨_, rfl⟩
  have hP : fH Γ σ H := by rw [hH]; exact hP
  have hS : va_S (fAd Γ) s.heap H locs := by rw [hH, hL]; exact hS
  suffices hw : W p l e ({ frames := 0, cells := 0, slots := 0, locals := 0 } : Room) s m args below meth c H locs 0 0 (MQ below (fQi Γ r σ') args s 0 0 (fAd Γ)) (F0 m 0 ls []) by rw [hH, hL] at hw; exact hw
  unfold f_X8_allAboard at hf
  refine lv_iconst (v := (0 : Int32)) C.1 C.2.1 (kd kX8_allAboard_0 0 rfl) (by decide) ?_
  refine lv_istore_n (lv' := [(1, .int (0 : Int32)), (0, .ref (Γ.1 164))]) C.1 C.2.1 (kd kX8_allAboard_0 1 rfl) rfl hl (Nat.le_of_ble_eq_true rfl) rfl (fun ls hl => ?_)
  refine lv_iconst (v := (0 : Int32)) C.1 C.2.1 (kd kX8_allAboard_0 2 rfl) (by decide) ?_
  refine lv_istore_n (lv' := [(2, .int (0 : Int32)), (1, .int (0 : Int32)), (0, .ref (Γ.1 164))]) C.1 C.2.1 (kd kX8_allAboard_0 3 rfl) rfl hl (Nat.le_of_ble_eq_true rfl) rfl (fun ls hl => ?_)
  exact w_X8_allAboard_b4 C fN ((0 : Int32)) ((0 : Int32)) σ H locs ls hf hP hS (lv_sub hl [2, 1, 0] rfl)
def f_X8_account_b110 : Nat → Int32 → Int32 → fS → Option (Int32 × fS)
  | 0, _, _, _ => none
  | n_ + 1, v3, v4, σ => fb (122 : Int32) 277 ((if (σ 165 (122 : Int32).toNatClampNeg) ≤ v4 then some (v3, σ) else fb v4 12 ((fun v3 v4 σ => f_X8_account_b110 n_ v3 v4 σ) ((v3 + (σ 175 v4.toNatClampNeg))) ((v4 + (1 : Int32))) σ)))
set_option maxRecDepth 100000 in
set_option maxHeartbeats 4000000 in
theorem w_X8_account_b110 {r : Int32} {σ' : fS}  (C : fC Γ p s m args meth c cX8_account (some .int) RX8 5) : ∀ (n_ : Nat) (v3 : Int32) (v4 : Int32) (σ : fS) (H : Heap) (locs : List Loc) (ls : Array Slot), f_X8_account_b110 n_ v3 v4 σ = some (r, σ') → fH Γ σ H → va_S (fAd Γ) s.heap H locs → lv_has ls 5 [(0, .ref (Γ.1 164)), (3, .int v3), (4, .int v4)] → W p l e ({ frames := 8, cells := 0, slots := 0, locals := 187 } : Room) s m args below meth c H locs 0 0 (MQ below (fQi Γ r σ') args s 0 0 (fAd Γ)) (F0 m 110 ls []) := by
  intro n_
  induction n_ with
  | zero =>
    intro v3 v4 σ H locs ls hf
    cases hf
  | succ n_ ih =>
    intro v3 v4 σ H locs ls hf hP hS hl
    have hf : fb (122 : Int32) 277 ((if (σ 165 (122 : Int32).toNatClampNeg) ≤ v4 then some (v3, σ) else fb v4 12 ((fun v3 v4 σ => f_X8_account_b110 n_ v3 v4 σ) ((v3 + (σ 175 v4.toNatClampNeg))) ((v4 + (1 : Int32))) σ))) = some (r, σ') := hf
    have hK110 := ih
    refine lv_iload C.1 C.2.1 (kd kX8_account_0 39 rfl) (lv_at hl 2 rfl) ?_
    refine lv_aload_n C.1 C.2.1 (kd kX8_account_0 40 rfl) rfl (lv_at hl 0 rfl) ?_
    refine fl_get (j := 0) (v := .ref (Γ.1 165)) C hP rfl (Nat.le_of_ble_eq_true rfl) rfl inX8 (Nat.le_of_ble_eq_true rfl) tw_862 rfl (kd kX8_account_0 41 rfl) ?_
    refine lv_bipush (v := (122 : Int32)) C.1 C.2.1 (kd kX8_account_0 42 rfl) (by decide) ?_
    obtain ⟨hq, hf⟩ := fb_some hf
    refine fl_iald C hP rfl hq (kd kX8_account_0 43 rfl) ?_
    refine lv_icmp_ge (tgt := 138) C.1 C.2.1 (kd kX8_account_0 44 rfl) (by decide) (fun q => ?_) (fun q => ?_)
    · have hf := fif_pos q hf
      refine lv_iload_n C.1 C.2.1 (kd kX8_account_0 54 rfl) rfl (lv_at hl 1 rfl) ?_
      exact fl_iret C hP hS hf (kd kX8_account_0 55 rfl)
    have hf := fif_neg q hf
    refine lv_iload_n C.1 C.2.1 (kd kX8_account_0 45 rfl) rfl (lv_at hl 1 rfl) ?_
    refine lv_aload_n C.1 C.2.1 (kd kX8_account_0 46 rfl) rfl (lv_at hl 0 rfl) ?_
    refine fl_get (j := 16) (v := .ref (Γ.1 175)) C hP rfl (Nat.le_of_ble_eq_true rfl) rfl inX8 (Nat.le_of_ble_eq_true rfl) tw_878 rfl (kd kX8_account_0 47 rfl) ?_
    refine lv_iload C.1 C.2.1 (kd kX8_account_0 48 rfl) (lv_at hl 2 rfl) ?_
    obtain ⟨hq, hf⟩ := fb_some hf
    refine fl_iald C hP rfl hq (kd kX8_account_0 49 rfl) ?_
    refine lv_iadd C.1 C.2.1 (kd kX8_account_0 50 rfl) ?_
    refine lv_istore_n (lv' := [(3, .int (v3 + (σ 175 v4.toNatClampNeg))), (0, .ref (Γ.1 164)), (4, .int v4)]) C.1 C.2.1 (kd kX8_account_0 51 rfl) rfl hl (Nat.le_of_ble_eq_true rfl) rfl (fun ls hl => ?_)
    refine lv_iinc (v := (v4 + (1 : Int32))) (lv' := [(4, .int (v4 + (1 : Int32))), (3, .int (v3 + (σ 175 v4.toNatClampNeg))), (0, .ref (Γ.1 164))]) C.1 C.2.1 (kd kX8_account_0 52 rfl) hl (k := 2) rfl rfl (Nat.le_of_ble_eq_true rfl) rfl (fun ls hl => ?_)
    refine lv_goto (tgt := 110) C.1 C.2.1 (kd kX8_account_0 53 rfl) (by decide) ?_
    exact hK110 ((v3 + (σ 175 v4.toNatClampNeg))) ((v4 + (1 : Int32))) σ H locs ls hf hP hS (lv_sub hl [2, 1, 0] rfl)
def f_X8_account_b153 : Nat → Int32 → Int32 → fS → Option (Int32 × fS)
  | 0, _, _, _ => none
  | n_ + 1, v3, v4, σ => fb (171 : Int32) 277 ((if (σ 165 (171 : Int32).toNatClampNeg) ≤ v4 then some (v3, σ) else fb v4 24 ((fun v3 v4 σ => f_X8_account_b153 n_ v3 v4 σ) ((v3 + (σ 181 v4.toNatClampNeg))) ((v4 + (1 : Int32))) σ)))
set_option maxRecDepth 100000 in
set_option maxHeartbeats 4000000 in
theorem w_X8_account_b153 {r : Int32} {σ' : fS}  (C : fC Γ p s m args meth c cX8_account (some .int) RX8 5) : ∀ (n_ : Nat) (v3 : Int32) (v4 : Int32) (σ : fS) (H : Heap) (locs : List Loc) (ls : Array Slot), f_X8_account_b153 n_ v3 v4 σ = some (r, σ') → fH Γ σ H → va_S (fAd Γ) s.heap H locs → lv_has ls 5 [(0, .ref (Γ.1 164)), (3, .int v3), (4, .int v4)] → W p l e ({ frames := 8, cells := 0, slots := 0, locals := 187 } : Room) s m args below meth c H locs 0 0 (MQ below (fQi Γ r σ') args s 0 0 (fAd Γ)) (F0 m 153 ls []) := by
  intro n_
  induction n_ with
  | zero =>
    intro v3 v4 σ H locs ls hf
    cases hf
  | succ n_ ih =>
    intro v3 v4 σ H locs ls hf hP hS hl
    have hf : fb (171 : Int32) 277 ((if (σ 165 (171 : Int32).toNatClampNeg) ≤ v4 then some (v3, σ) else fb v4 24 ((fun v3 v4 σ => f_X8_account_b153 n_ v3 v4 σ) ((v3 + (σ 181 v4.toNatClampNeg))) ((v4 + (1 : Int32))) σ))) = some (r, σ') := hf
    have hK153 := ih
    refine lv_iload C.1 C.2.1 (kd kX8_account_1 4 rfl) (lv_at hl 2 rfl) ?_
    refine lv_aload_n C.1 C.2.1 (kd kX8_account_1 5 rfl) rfl (lv_at hl 0 rfl) ?_
    refine fl_get (j := 0) (v := .ref (Γ.1 165)) C hP rfl (Nat.le_of_ble_eq_true rfl) rfl inX8 (Nat.le_of_ble_eq_true rfl) tw_862 rfl (kd kX8_account_1 6 rfl) ?_
    refine lv_sipush (v := (171 : Int32)) C.1 C.2.1 (kd kX8_account_1 7 rfl) (by decide) ?_
    obtain ⟨hq, hf⟩ := fb_some hf
    refine fl_iald C hP rfl hq (kd kX8_account_1 8 rfl) ?_
    refine lv_icmp_ge (tgt := 182) C.1 C.2.1 (kd kX8_account_1 9 rfl) (by decide) (fun q => ?_) (fun q => ?_)
    · have hf := fif_pos q hf
      refine lv_iload_n C.1 C.2.1 (kd kX8_account_1 19 rfl) rfl (lv_at hl 1 rfl) ?_
      exact fl_iret C hP hS hf (kd kX8_account_1 20 rfl)
    have hf := fif_neg q hf
    refine lv_iload_n C.1 C.2.1 (kd kX8_account_1 10 rfl) rfl (lv_at hl 1 rfl) ?_
    refine lv_aload_n C.1 C.2.1 (kd kX8_account_1 11 rfl) rfl (lv_at hl 0 rfl) ?_
    refine fl_get (j := 22) (v := .ref (Γ.1 181)) C hP rfl (Nat.le_of_ble_eq_true rfl) rfl inX8 (Nat.le_of_ble_eq_true rfl) tw_884 rfl (kd kX8_account_1 12 rfl) ?_
    refine lv_iload C.1 C.2.1 (kd kX8_account_1 13 rfl) (lv_at hl 2 rfl) ?_
    obtain ⟨hq, hf⟩ := fb_some hf
    refine fl_iald C hP rfl hq (kd kX8_account_1 14 rfl) ?_
    refine lv_iadd C.1 C.2.1 (kd kX8_account_1 15 rfl) ?_
    refine lv_istore_n (lv' := [(3, .int (v3 + (σ 181 v4.toNatClampNeg))), (0, .ref (Γ.1 164)), (4, .int v4)]) C.1 C.2.1 (kd kX8_account_1 16 rfl) rfl hl (Nat.le_of_ble_eq_true rfl) rfl (fun ls hl => ?_)
    refine lv_iinc (v := (v4 + (1 : Int32))) (lv' := [(4, .int (v4 + (1 : Int32))), (3, .int (v3 + (σ 181 v4.toNatClampNeg))), (0, .ref (Γ.1 164))]) C.1 C.2.1 (kd kX8_account_1 17 rfl) hl (k := 2) rfl rfl (Nat.le_of_ble_eq_true rfl) rfl (fun ls hl => ?_)
    refine lv_goto (tgt := 153) C.1 C.2.1 (kd kX8_account_1 18 rfl) (by decide) ?_
    exact hK153 ((v3 + (σ 181 v4.toNatClampNeg))) ((v4 + (1 : Int32))) σ H locs ls hf hP hS (lv_sub hl [2, 1, 0] rfl)
def f_X8_account (x1 : Int32) (σ : fS) : Option (Int32 × fS) := fcall (f_X8_sailing (2 : Int32) (0 : Int32) σ) (fun r1_ σ1 => (if x1 = (0 : Int32) then some (r1_, σ1) else if x1 = (1 : Int32) then fb (122 : Int32) 277 (some (((σ1 165 (122 : Int32).toNatClampNeg) - r1_), σ1)) else if x1 = (2 : Int32) then fcall (f_X8_passengers (1 : Int32) σ1) (fun r2_ σ2 => some (r2_, σ2)) else if x1 = (3 : Int32) then fcall (f_X8_passengers (0 : Int32) σ1) (fun r3_ σ3 => some (r3_, σ3)) else if x1 = (4 : Int32) then fcall (f_X8_allAboard σ1) (fun r4_ σ4 => some (r4_, σ4)) else if x1 = (5 : Int32) then fb (171 : Int32) 277 (fcall (f_X8_allAboard σ1) (fun r5_ σ5 => some (((σ1 165 (171 : Int32).toNatClampNeg) - r5_), σ5))) else if x1 = (6 : Int32) then f_X8_account_b110 fN ((0 : Int32)) ((0 : Int32)) σ1 else if x1 = (7 : Int32) then fcall (f_X8_meters σ1) (fun r6_ σ6 => some (r6_, σ6)) else if x1 = (8 : Int32) then fcall (f_X8_laneMeters σ1) (fun r7_ σ7 => some (r7_, σ7)) else if x1 = (9 : Int32) then f_X8_account_b153 fN ((0 : Int32)) ((0 : Int32)) σ1 else some ((-10002 : Int32), σ1)))
set_option maxRecDepth 100000 in
set_option maxHeartbeats 4000000 in
theorem m_X8_account {Γ : fGm} (hI : fI Γ) (l : Launch) {x1 : Int32} {σ : fS} {r : Int32} {σ' : fS} (hf : f_X8_account x1 σ = some (r, σ')) : Met l yX8_account (.code yX8_account cX8_account 5 (some .int) :: lw_g) ({ frames := 8, cells := 0, slots := 0, locals := 187 } : Room) (fPre Γ [.ref (Γ.1 164), .int x1] σ) (fQi Γ r σ') 0 0 (fAd Γ) := by
  refine fl_enter (own := RX8) hI (by decide +kernel) rfl (Nat.le_of_ble_eq_true rfl) ?_
  intro p e s m args below meth c ls C hl hP hS
  have hl : lv_has ls 5 [(0, .ref (Γ.1 164)), (1, .int x1)] := hl
  obtain ⟨H, hH⟩ : ∃ H, H = s.heap := ⟨_, rfl⟩
  obtain ⟨locs, hL⟩ : ∃ L : List Loc, L = [] := ⟨_, rfl⟩
  have hP : fH Γ σ H := by rw [hH]; exact hP
  have hS : va_S (fAd Γ) s.heap H locs := by rw [hH, hL]; exact hS
  suffices hw : W p l e ({ frames := 8, cells := 0, slots := 0, locals := 187 } : Room) s m args below meth c H locs 0 0 (MQ below (fQi Γ r σ') args s 0 0 (fAd Γ)) (F0 m 0 ls []) by rw [hH, hL] at hw; exact hw
  unfold f_X8_account at hf
  refine lv_aload_n C.1 C.2.1 (kd kX8_account_0 0 rfl) rfl (lv_at hl 0 rfl) ?_
  refine lv_iconst (v := (2 : Int32)) C.1 C.2.1 (kd kX8_account_0 1 rfl) (by decide) ?_
  refine lv_iconst (v := (0 : Int32)) C.1 C.2.1 (kd kX8_account_0 2 rfl) (by decide) ?_
  obtain ⟨r1_, σ1, hσ1, hf⟩ := fcall_some hf
  refine fl_i hS (fl_runV (As := [.int (2 : Int32), .int (0 : Int32)]) (rest := []) C hP rfl (Nat.le_of_ble_eq_true rfl) rfl (m_X8_sailing C.2.2.2.2.2.2.2.2 l  hσ1) (fgV tw_1106 tw_1108 tw_40 tw_75 tw_1109) hd_X8_sailing ⟨rfl, rfl, Nat.le_of_ble_eq_true rfl, Nat.le_of_ble_eq_true rfl⟩ rfl hl.1 rfl (Nat.le_of_ble_eq_true rfl) (kd kX8_account_0 3 rfl)) (fun H locs hP hS => ?_)
  refine lv_istore_n (lv' := [(2, .int r1_), (0, .ref (Γ.1 164)), (1, .int x1)]) C.1 C.2.1 (kd kX8_account_0 4 rfl) rfl hl (Nat.le_of_ble_eq_true rfl) rfl (fun ls hl => ?_)
  refine lv_iconst (v := (0 : Int32)) C.1 C.2.1 (kd kX8_account_0 5 rfl) (by decide) ?_
  refine lv_istore_n (lv' := [(3, .int (0 : Int32)), (2, .int r1_), (0, .ref (Γ.1 164)), (1, .int x1)]) C.1 C.2.1 (kd kX8_account_0 6 rfl) rfl hl (Nat.le_of_ble_eq_true rfl) rfl (fun ls hl => ?_)
  refine lv_iload_n C.1 C.2.1 (kd kX8_account_0 7 rfl) rfl (lv_at hl 3 rfl) ?_
  by_cases q0 : x1 = (0 : Int32)
  · have hf := fif_pos q0 hf
    refine lv_tableIn (tgt := 64) C.1 C.2.1 (kd kX8_account_0 8 rfl) (by rw [q0] <;> decide) (by rw [q0] <;> decide) (by rw [q0] <;> rfl) (by decide) ?_
    refine lv_iload_n C.1 C.2.1 (kd kX8_account_0 9 rfl) rfl (lv_at hl 1 rfl) ?_
    exact fl_iret C hP hS hf (kd kX8_account_0 10 rfl)
  have hf := fif_neg q0 hf
  have z0 : ¬ x1.toInt = 0 := fi_ne q0 (by decide)
  by_cases q1 : x1 = (1 : Int32)
  · have hf := fif_pos q1 hf
    refine lv_tableIn (tgt := 66) C.1 C.2.1 (kd kX8_account_0 8 rfl) (by rw [q1] <;> decide) (by rw [q1] <;> decide) (by rw [q1] <;> rfl) (by decide) ?_
    refine lv_aload_n C.1 C.2.1 (kd kX8_account_0 11 rfl) rfl (lv_at hl 2 rfl) ?_
    refine fl_get (j := 0) (v := .ref (Γ.1 165)) C hP rfl (Nat.le_of_ble_eq_true rfl) rfl inX8 (Nat.le_of_ble_eq_true rfl) tw_862 rfl (kd kX8_account_0 12 rfl) ?_
    refine lv_bipush (v := (122 : Int32)) C.1 C.2.1 (kd kX8_account_0 13 rfl) (by decide) ?_
    obtain ⟨hq, hf⟩ := fb_some hf
    refine fl_iald C hP rfl hq (kd kX8_account_0 14 rfl) ?_
    refine lv_iload_n C.1 C.2.1 (kd kX8_account_0 15 rfl) rfl (lv_at hl 1 rfl) ?_
    refine lv_isub C.1 C.2.1 (kd kX8_account_0 16 rfl) ?_
    exact fl_iret C hP hS hf (kd kX8_account_0 17 rfl)
  have hf := fif_neg q1 hf
  have z1 : ¬ x1.toInt = 1 := fi_ne q1 (by decide)
  by_cases q2 : x1 = (2 : Int32)
  · have hf := fif_pos q2 hf
    refine lv_tableIn (tgt := 76) C.1 C.2.1 (kd kX8_account_0 8 rfl) (by rw [q2] <;> decide) (by rw [q2] <;> decide) (by rw [q2] <;> rfl) (by decide) ?_
    refine lv_aload_n C.1 C.2.1 (kd kX8_account_0 18 rfl) rfl (lv_at hl 2 rfl) ?_
    refine lv_iconst (v := (1 : Int32)) C.1 C.2.1 (kd kX8_account_0 19 rfl) (by decide) ?_
    obtain ⟨r2_, σ2, hσ2, hf⟩ := fcall_some hf
    refine fl_i hS (fl_runV (As := [.int (1 : Int32)]) (rest := []) C hP rfl (Nat.le_of_ble_eq_true rfl) rfl (m_X8_passengers C.2.2.2.2.2.2.2.2 l  hσ2) (fgV tw_1269 tw_1271 tw_62 tw_75 tw_1272) hd_X8_passengers ⟨rfl, rfl, Nat.le_of_ble_eq_true rfl, Nat.le_of_ble_eq_true rfl⟩ rfl hl.1 rfl (Nat.le_of_ble_eq_true rfl) (kd kX8_account_0 20 rfl)) (fun H locs hP hS => ?_)
    exact fl_iret C hP hS hf (kd kX8_account_0 21 rfl)
  have hf := fif_neg q2 hf
  have z2 : ¬ x1.toInt = 2 := fi_ne q2 (by decide)
  by_cases q3 : x1 = (3 : Int32)
  · have hf := fif_pos q3 hf
    refine lv_tableIn (tgt := 82) C.1 C.2.1 (kd kX8_account_0 8 rfl) (by rw [q3] <;> decide) (by rw [q3] <;> decide) (by rw [q3] <;> rfl) (by decide) ?_
    refine lv_aload_n C.1 C.2.1 (kd kX8_account_0 22 rfl) rfl (lv_at hl 2 rfl) ?_
    refine lv_iconst (v := (0 : Int32)) C.1 C.2.1 (kd kX8_account_0 23 rfl) (by decide) ?_
    obtain ⟨r3_, σ3, hσ3, hf⟩ := fcall_some hf
    refine fl_i hS (fl_runV (As := [.int (0 : Int32)]) (rest := []) C hP rfl (Nat.le_of_ble_eq_true rfl) rfl (m_X8_passengers C.2.2.2.2.2.2.2.2 l  hσ3) (fgV tw_1269 tw_1271 tw_62 tw_75 tw_1272) hd_X8_passengers ⟨rfl, rfl, Nat.le_of_ble_eq_true rfl, Nat.le_of_ble_eq_true rfl⟩ rfl hl.1 rfl (Nat.le_of_ble_eq_true rfl) (kd kX8_account_0 24 rfl)) (fun H locs hP hS => ?_)
    exact fl_iret C hP hS hf (kd kX8_account_0 25 rfl)
  have hf := fif_neg q3 hf
  have z3 : ¬ x1.toInt = 3 := fi_ne q3 (by decide)
  by_cases q4 : x1 = (4 : Int32)
  · have hf := fif_pos q4 hf
    refine lv_tableIn (tgt := 88) C.1 C.2.1 (kd kX8_account_0 8 rfl) (by rw [q4] <;> decide) (by rw [q4] <;> decide) (by rw [q4] <;> rfl) (by decide) ?_
    refine lv_aload_n C.1 C.2.1 (kd kX8_account_0 26 rfl) rfl (lv_at hl 2 rfl) ?_
    obtain ⟨r4_, σ4, hσ4, hf⟩ := fcall_some hf
    refine fl_i hS (fl_runV (As := []) (rest := []) C hP rfl (Nat.le_of_ble_eq_true rfl) rfl (m_X8_allAboard C.2.2.2.2.2.2.2.2 l  hσ4) (fgV tw_1273 tw_1275 tw_63 tw_75 tw_1276) hd_X8_allAboard ⟨rfl, rfl, Nat.le_of_ble_eq_true rfl, Nat.le_of_ble_eq_true rfl⟩ rfl hl.1 rfl (Nat.le_of_ble_eq_true rfl) (kd kX8_account_0 27 rfl)) (fun H locs hP hS => ?_)
    exact fl_iret C hP hS hf (kd kX8_account_0 28 rfl)
  have hf := fif_neg q4 hf
  have z4 : ¬ x1.toInt = 4 := fi_ne q4 (by decide)
  by_cases q5 : x1 = (5 : Int32)
  · have hf := fif_pos q5 hf
    refine lv_tableIn (tgt := 93) C.1 C.2.1 (kd kX8_account_0 8 rfl) (by rw [q5] <;> decide) (by rw [q5] <;> decide) (by rw [q5] <;> rfl) (by decide) ?_
    refine lv_aload_n C.1 C.2.1 (kd kX8_account_0 29 rfl) rfl (lv_at hl 2 rfl) ?_
    refine fl_get (j := 0) (v := .ref (Γ.1 165)) C hP rfl (Nat.le_of_ble_eq_true rfl) rfl inX8 (Nat.le_of_ble_eq_true rfl) tw_862 rfl (kd kX8_account_0 30 rfl) ?_
    refine lv_sipush (v := (171 : Int32)) C.1 C.2.1 (kd kX8_account_0 31 rfl) (by decide) ?_
    obtain ⟨hq, hf⟩ := fb_some hf
    refine fl_iald C hP rfl hq (kd kX8_account_0 32 rfl) ?_
    refine lv_aload_n C.1 C.2.1 (kd kX8_account_0 33 rfl) rfl (lv_at hl 2 rfl) ?_
    obtain ⟨r5_, σ5, hσ5, hf⟩ := fcall_some hf
    refine fl_i hS (fl_runV (As := []) (rest := [.int (σ1 165 (171 : Int32).toNatClampNeg)]) C hP rfl (Nat.le_of_ble_eq_true rfl) rfl (m_X8_allAboard C.2.2.2.2.2.2.2.2 l  hσ5) (fgV tw_1273 tw_1275 tw_63 tw_75 tw_1276) hd_X8_allAboard ⟨rfl, rfl, Nat.le_of_ble_eq_true rfl, Nat.le_of_ble_eq_true rfl⟩ rfl hl.1 rfl (Nat.le_of_ble_eq_true rfl) (kd kX8_account_0 34 rfl)) (fun H locs hP hS => ?_)
    refine lv_isub C.1 C.2.1 (kd kX8_account_0 35 rfl) ?_
    exact fl_iret C hP hS hf (kd kX8_account_0 36 rfl)
  have hf := fif_neg q5 hf
  have z5 : ¬ x1.toInt = 5 := fi_ne q5 (by decide)
  by_cases q6 : x1 = (6 : Int32)
  · have hf := fif_pos q6 hf
    refine lv_tableIn (tgt := 107) C.1 C.2.1 (kd kX8_account_0 8 rfl) (by rw [q6] <;> decide) (by rw [q6] <;> decide) (by rw [q6] <;> rfl) (by decide) ?_
    refine lv_iconst (v := (0 : Int32)) C.1 C.2.1 (kd kX8_account_0 37 rfl) (by decide) ?_
    refine lv_istore (lv' := [(4, .int (0 : Int32)), (3, .int (0 : Int32)), (2, .int r1_), (0, .ref (Γ.1 164)), (1, .int x1)]) C.1 C.2.1 (kd kX8_account_0 38 rfl) hl (Nat.le_of_ble_eq_true rfl) rfl (fun ls hl => ?_)
    exact w_X8_account_b110 C fN ((0 : Int32)) ((0 : Int32)) σ1 H locs ls hf hP hS (lv_sub hl [3, 1, 0] rfl)
  have hf := fif_neg q6 hf
  have z6 : ¬ x1.toInt = 6 := fi_ne q6 (by decide)
  by_cases q7 : x1 = (7 : Int32)
  · have hf := fif_pos q7 hf
    refine lv_tableIn (tgt := 140) C.1 C.2.1 (kd kX8_account_0 8 rfl) (by rw [q7] <;> decide) (by rw [q7] <;> decide) (by rw [q7] <;> rfl) (by decide) ?_
    refine lv_aload_n C.1 C.2.1 (kd kX8_account_0 56 rfl) rfl (lv_at hl 2 rfl) ?_
    obtain ⟨r6_, σ6, hσ6, hf⟩ := fcall_some hf
    refine fl_i hS (fl_runV (As := []) (rest := []) C hP rfl (Nat.le_of_ble_eq_true rfl) rfl (m_X8_meters C.2.2.2.2.2.2.2.2 l  hσ6) (fgV tw_1277 tw_1279 tw_64 tw_75 tw_1280) hd_X8_meters ⟨rfl, rfl, Nat.le_of_ble_eq_true rfl, Nat.le_of_ble_eq_true rfl⟩ rfl hl.1 rfl (Nat.le_of_ble_eq_true rfl) (kd kX8_account_0 57 rfl)) (fun H locs hP hS => ?_)
    exact fl_iret C hP hS hf (kd kX8_account_0 58 rfl)
  have hf := fif_neg q7 hf
  have z7 : ¬ x1.toInt = 7 := fi_ne q7 (by decide)
  by_cases q8 : x1 = (8 : Int32)
  · have hf := fif_pos q8 hf
    refine lv_tableIn (tgt := 145) C.1 C.2.1 (kd kX8_account_0 8 rfl) (by rw [q8] <;> decide) (by rw [q8] <;> decide) (by rw [q8] <;> rfl) (by decide) ?_
    refine lv_aload_n C.1 C.2.1 (kd kX8_account_0 59 rfl) rfl (lv_at hl 2 rfl) ?_
    obtain ⟨r7_, σ7, hσ7, hf⟩ := fcall_some hf
    refine fl_i hS (fl_runV (As := []) (rest := []) C hP rfl (Nat.le_of_ble_eq_true rfl) rfl (m_X8_laneMeters C.2.2.2.2.2.2.2.2 l  hσ7) (fgV tw_1281 tw_1283 tw_65 tw_75 tw_1284) hd_X8_laneMeters ⟨rfl, rfl, Nat.le_of_ble_eq_true rfl, Nat.le_of_ble_eq_true rfl⟩ rfl hl.1 rfl (Nat.le_of_ble_eq_true rfl) (kd kX8_account_1 0 rfl)) (fun H locs hP hS => ?_)
    exact fl_iret C hP hS hf (kd kX8_account_1 1 rfl)
  have hf := fif_neg q8 hf
  have z8 : ¬ x1.toInt = 8 := fi_ne q8 (by decide)
  by_cases q9 : x1 = (9 : Int32)
  · have hf := fif_pos q9 hf
    refine lv_tableIn (tgt := 150) C.1 C.2.1 (kd kX8_account_0 8 rfl) (by rw [q9] <;> decide) (by rw [q9] <;> decide) (by rw [q9] <;> rfl) (by decide) ?_
    refine lv_iconst (v := (0 : Int32)) C.1 C.2.1 (kd kX8_account_1 2 rfl) (by decide) ?_
    refine lv_istore (lv' := [(4, .int (0 : Int32)), (3, .int (0 : Int32)), (2, .int r1_), (0, .ref (Γ.1 164)), (1, .int x1)]) C.1 C.2.1 (kd kX8_account_1 3 rfl) hl (Nat.le_of_ble_eq_true rfl) rfl (fun ls hl => ?_)
    exact w_X8_account_b153 C fN ((0 : Int32)) ((0 : Int32)) σ1 H locs ls hf hP hS (lv_sub hl [3, 1, 0] rfl)
  have hf := fif_neg q9 hf
  have z9 : ¬ x1.toInt = 9 := fi_ne q9 (by decide)
  refine lv_tableOut (tgt := 184) C.1 C.2.1 (kd kX8_account_0 8 rfl) (by omega) (by decide) ?_
  refine lv_sipush (v := (-10002 : Int32)) C.1 C.2.1 (kd kX8_account_1 21 rfl) (by decide) ?_
  exact fl_iret C hP hS hf (kd kX8_account_1 22 rfl)
def f_X8_loadBits (σ : fS) : Option (Int32 × fS) := fcall (f_X8_sailing (2 : Int32) (0 : Int32) σ) (fun r1_ σ1 => (if r1_ = 0 then some ((-10004 : Int32), σ1) else fcall (f_X8_meters σ1) (fun r2_ σ2 => fcall (f_X8_laneMeters σ2) (fun r3_ σ3 => fg ((FP.fdiv (FP.i2f r2_) (FP.i2f r3_)) &&& 0x7fffffff ≤ 0x7f800000) (fcall (f_Jxf58ca_floatToIntBits_5c35a (FP.fdiv (FP.i2f r2_) (FP.i2f r3_)) σ3) (fun r4_ σ4 => some (r4_, σ4)))))))
set_option maxRecDepth 100000 in
set_option maxHeartbeats 4000000 in
theorem m_X8_loadBits {Γ : fGm} (hI : fI Γ) (l : Launch) {σ : fS} {r : Int32} {σ' : fS} (hf : f_X8_loadBits  σ = some (r, σ')) : Met l yX8_loadBits (.code yX8_loadBits cX8_loadBits 1 (some .int) :: lw_g) ({ frames := 8, cells := 0, slots := 0, locals := 187 } : Room) (fPre Γ [.ref (Γ.1 164)] σ) (fQi Γ r σ') 0 0 (fAd Γ) := by
  refine fl_enter (own := RX8) hI (by decide +kernel) rfl (Nat.le_of_ble_eq_true rfl) ?_
  intro p e s m args below meth c ls C hl hP hS
  have hl : lv_has ls 1 [(0, .ref (Γ.1 164))] := hl
  obtain ⟨H, hH⟩ : ∃ H, H = s.heap := ⟨_, rfl⟩
  obtain ⟨locs, hL⟩ : ∃ L : List Loc, L = [] := ⟨_, rfl⟩
  have hP : fH Γ σ H := by rw [hH]; exact hP
  have hS : va_S (fAd Γ) s.heap H locs := by rw [hH, hL]; exact hS
  suffices hw : W p l e ({ frames := 8, cells := 0, slots := 0, locals := 187 } : Room) s m args below meth c H locs 0 0 (MQ below (fQi Γ r σ') args s 0 0 (fAd Γ)) (F0 m 0 ls []) by rw [hH, hL] at hw; exact hw
  unfold f_X8_loadBits at hf
  refine lv_aload_n C.1 C.2.1 (kd kX8_loadBits_0 0 rfl) rfl (lv_at hl 0 rfl) ?_
  refine lv_iconst (v := (2 : Int32)) C.1 C.2.1 (kd kX8_loadBits_0 1 rfl) (by decide) ?_
  refine lv_iconst (v := (0 : Int32)) C.1 C.2.1 (kd kX8_loadBits_0 2 rfl) (by decide) ?_
  obtain ⟨r1_, σ1, hσ1, hf⟩ := fcall_some hf
  refine fl_i hS (fl_runV (As := [.int (2 : Int32), .int (0 : Int32)]) (rest := []) C hP rfl (Nat.le_of_ble_eq_true rfl) rfl (m_X8_sailing C.2.2.2.2.2.2.2.2 l  hσ1) (fgV tw_1106 tw_1108 tw_40 tw_75 tw_1109) hd_X8_sailing ⟨rfl, rfl, Nat.le_of_ble_eq_true rfl, Nat.le_of_ble_eq_true rfl⟩ rfl hl.1 rfl (Nat.le_of_ble_eq_true rfl) (kd kX8_loadBits_0 3 rfl)) (fun H locs hP hS => ?_)
  refine lv_if_ne (tgt := 15) C.1 C.2.1 (kd kX8_loadBits_0 4 rfl) (by decide) (fun q => ?_) (fun q => ?_)
  · have hf := fif_neg q hf
    refine lv_aload_n C.1 C.2.1 (kd kX8_loadBits_0 7 rfl) rfl (lv_at hl 0 rfl) ?_
    obtain ⟨r2_, σ2, hσ2, hf⟩ := fcall_some hf
    refine fl_i hS (fl_runV (As := []) (rest := []) C hP rfl (Nat.le_of_ble_eq_true rfl) rfl (m_X8_meters C.2.2.2.2.2.2.2.2 l  hσ2) (fgV tw_1277 tw_1279 tw_64 tw_75 tw_1280) hd_X8_meters ⟨rfl, rfl, Nat.le_of_ble_eq_true rfl, Nat.le_of_ble_eq_true rfl⟩ rfl hl.1 rfl (Nat.le_of_ble_eq_true rfl) (kd kX8_loadBits_0 8 rfl)) (fun H locs hP hS => ?_)
    refine lv_i2f C.1 C.2.1 (kd kX8_loadBits_0 9 rfl) ?_
    refine lv_aload_n C.1 C.2.1 (kd kX8_loadBits_0 10 rfl) rfl (lv_at hl 0 rfl) ?_
    obtain ⟨r3_, σ3, hσ3, hf⟩ := fcall_some hf
    refine fl_i hS (fl_runV (As := []) (rest := [.float (FP.i2f r2_)]) C hP rfl (Nat.le_of_ble_eq_true rfl) rfl (m_X8_laneMeters C.2.2.2.2.2.2.2.2 l  hσ3) (fgV tw_1281 tw_1283 tw_65 tw_75 tw_1284) hd_X8_laneMeters ⟨rfl, rfl, Nat.le_of_ble_eq_true rfl, Nat.le_of_ble_eq_true rfl⟩ rfl hl.1 rfl (Nat.le_of_ble_eq_true rfl) (kd kX8_loadBits_0 11 rfl)) (fun H locs hP hS => ?_)
    refine lv_i2f C.1 C.2.1 (kd kX8_loadBits_0 12 rfl) ?_
    obtain ⟨hq, hf⟩ := fg_some hf
    refine lv_fdiv C.1 C.2.1 (kd kX8_loadBits_0 13 rfl) hq ?_
    obtain ⟨r4_, σ4, hσ4, hf⟩ := fcall_some hf
    refine fl_i hS (fl_runS (As := [.float (FP.fdiv (FP.i2f r2_) (FP.i2f r3_))]) (rest := []) C hP (m_Jxf58ca_floatToIntBits_5c35a C.2.2.2.2.2.2.2.2 l  hσ4) (fgS tw_1223 tw_1224 tw_78 tw_1225) hs_Jxf58ca_floatToIntBits_5c35a ⟨rfl, rfl, Nat.le_of_ble_eq_true rfl, Nat.le_of_ble_eq_true rfl⟩ rfl hl.1 rfl (Nat.le_of_ble_eq_true rfl) (kd kX8_loadBits_0 14 rfl)) (fun H locs hP hS => ?_)
    exact fl_iret C hP hS hf (kd kX8_loadBits_0 15 rfl)
  have hf := fif_pos q hf
  refine lv_sipush (v := (-10004 : Int32)) C.1 C.2.1 (kd kX8_loadBits_0 5 rfl) (by decide) ?_
  refine lv_goto (tgt := 29) C.1 C.2.1 (kd kX8_loadBits_0 6 rfl) (by decide) ?_
  exact fl_iret C hP hS hf (kd kX8_loadBits_0 15 rfl)
def f_X8_sailingIf (x1 : Int32) (σ : fS) : Option (Int32 × fS) := fcall (f_X8_in x1 (0 : Int32) (200 : Int32) σ) (fun r1_ σ1 => (if r1_ = 0 then some ((-10002 : Int32), σ1) else fb (97 : Int32) 277 (fb (97 : Int32) 277 (fL (fu σ1 165 (97 : Int32).toNatClampNeg x1) (fun σ2 => fcall (f_X8_sailing (2 : Int32) (0 : Int32) σ2) (fun r3_ σ3 => fb (97 : Int32) 277 (fL (fu σ3 165 (97 : Int32).toNatClampNeg (σ1 165 (97 : Int32).toNatClampNeg)) (fun σ4 => some (r3_, σ4)))))))))
set_option maxRecDepth 100000 in
set_option maxHeartbeats 4000000 in
theorem m_X8_sailingIf {Γ : fGm} (hI : fI Γ) (l : Launch) {x1 : Int32} {σ : fS} {r : Int32} {σ' : fS} (hf : f_X8_sailingIf x1 σ = some (r, σ')) : Met l yX8_sailingIf (.code yX8_sailingIf cX8_sailingIf 4 (some .int) :: lw_g) ({ frames := 8, cells := 0, slots := 0, locals := 187 } : Room) (fPre Γ [.ref (Γ.1 164), .int x1] σ) (fQi Γ r σ') 0 0 (fAd Γ) := by
  refine fl_enter (own := RX8) hI (by decide +kernel) rfl (Nat.le_of_ble_eq_true rfl) ?_
  intro p e s m args below meth c ls C hl hP hS
  have hl : lv_has ls 4 [(0, .ref (Γ.1 164)), (1, .int x1)] := hl
  obtain ⟨H, hH⟩ : ∃ H, H = s.heap := ⟨_, rfl⟩
  obtain ⟨locs, hL⟩ : ∃ L : List Loc, L = [] := ⟨_, rfl⟩
  have hP : fH Γ σ H := by rw [hH]; exact hP
  have hS : va_S (fAd Γ) s.heap H locs := by rw [hH, hL]; exact hS
  suffices hw : W p l e ({ frames := 8, cells := 0, slots := 0, locals := 187 } : Room) s m args below meth c H locs 0 0 (MQ below (fQi Γ r σ') args s 0 0 (fAd Γ)) (F0 m 0 ls []) by rw [hH, hL] at hw; exact hw
  unfold f_X8_sailingIf at hf
  refine lv_iload_n C.1 C.2.1 (kd kX8_sailingIf_0 0 rfl) rfl (lv_at hl 1 rfl) ?_
  refine lv_iconst (v := (0 : Int32)) C.1 C.2.1 (kd kX8_sailingIf_0 1 rfl) (by decide) ?_
  refine lv_sipush (v := (200 : Int32)) C.1 C.2.1 (kd kX8_sailingIf_0 2 rfl) (by decide) ?_
  obtain ⟨r1_, σ1, hσ1, hf⟩ := fcall_some hf
  refine fl_i hS (fl_runS (As := [.int x1, .int (0 : Int32), .int (200 : Int32)]) (rest := []) C hP (m_X8_in C.2.2.2.2.2.2.2.2 l  hσ1) (fgS tw_968 tw_969 tw_75 tw_970) hs_X8_in ⟨rfl, rfl, Nat.le_of_ble_eq_true rfl, Nat.le_of_ble_eq_true rfl⟩ rfl hl.1 rfl (Nat.le_of_ble_eq_true rfl) (kd kX8_sailingIf_0 3 rfl)) (fun H locs hP hS => ?_)
  refine lv_if_ne (tgt := 15) C.1 C.2.1 (kd kX8_sailingIf_0 4 rfl) (by decide) (fun q => ?_) (fun q => ?_)
  · have hf := fif_neg q hf
    refine lv_aload_n C.1 C.2.1 (kd kX8_sailingIf_0 7 rfl) rfl (lv_at hl 0 rfl) ?_
    refine fl_get (j := 0) (v := .ref (Γ.1 165)) C hP rfl (Nat.le_of_ble_eq_true rfl) rfl inX8 (Nat.le_of_ble_eq_true rfl) tw_862 rfl (kd kX8_sailingIf_0 8 rfl) ?_
    refine lv_bipush (v := (97 : Int32)) C.1 C.2.1 (kd kX8_sailingIf_0 9 rfl) (by decide) ?_
    obtain ⟨hq, hf⟩ := fb_some hf
    refine fl_iald C hP rfl hq (kd kX8_sailingIf_0 10 rfl) ?_
    refine lv_istore_n (lv' := [(2, .int (σ1 165 (97 : Int32).toNatClampNeg)), (0, .ref (Γ.1 164)), (1, .int x1)]) C.1 C.2.1 (kd kX8_sailingIf_0 11 rfl) rfl hl (Nat.le_of_ble_eq_true rfl) rfl (fun ls hl => ?_)
    refine lv_aload_n C.1 C.2.1 (kd kX8_sailingIf_0 12 rfl) rfl (lv_at hl 1 rfl) ?_
    refine fl_get (j := 0) (v := .ref (Γ.1 165)) C hP rfl (Nat.le_of_ble_eq_true rfl) rfl inX8 (Nat.le_of_ble_eq_true rfl) tw_862 rfl (kd kX8_sailingIf_0 13 rfl) ?_
    refine lv_bipush (v := (97 : Int32)) C.1 C.2.1 (kd kX8_sailingIf_0 14 rfl) (by decide) ?_
    refine lv_iload_n C.1 C.2.1 (kd kX8_sailingIf_0 15 rfl) rfl (lv_at hl 2 rfl) ?_
    obtain ⟨hq, hf⟩ := fb_some hf
    obtain ⟨σ2, eσ2, hf⟩ := fL_some hf
    refine fl_iast C hP hS rfl hq (kd kX8_sailingIf_0 16 rfl) (fun H locs hP hS => ?_)
    have hP : fH Γ σ2 H := by rw [eσ2]; exact hP
    refine lv_aload_n C.1 C.2.1 (kd kX8_sailingIf_0 17 rfl) rfl (lv_at hl 1 rfl) ?_
    refine lv_iconst (v := (2 : Int32)) C.1 C.2.1 (kd kX8_sailingIf_0 18 rfl) (by decide) ?_
    refine lv_iconst (v := (0 : Int32)) C.1 C.2.1 (kd kX8_sailingIf_0 19 rfl) (by decide) ?_
    obtain ⟨r3_, σ3, hσ3, hf⟩ := fcall_some hf
    refine fl_i hS (fl_runV (As := [.int (2 : Int32), .int (0 : Int32)]) (rest := []) C hP rfl (Nat.le_of_ble_eq_true rfl) rfl (m_X8_sailing C.2.2.2.2.2.2.2.2 l  hσ3) (fgV tw_1106 tw_1108 tw_40 tw_75 tw_1109) hd_X8_sailing ⟨rfl, rfl, Nat.le_of_ble_eq_true rfl, Nat.le_of_ble_eq_true rfl⟩ rfl hl.1 rfl (Nat.le_of_ble_eq_true rfl) (kd kX8_sailingIf_0 20 rfl)) (fun H locs hP hS => ?_)
    refine lv_istore_n (lv' := [(3, .int r3_), (2, .int (σ1 165 (97 : Int32).toNatClampNeg)), (0, .ref (Γ.1 164)), (1, .int x1)]) C.1 C.2.1 (kd kX8_sailingIf_0 21 rfl) rfl hl (Nat.le_of_ble_eq_true rfl) rfl (fun ls hl => ?_)
    refine lv_aload_n C.1 C.2.1 (kd kX8_sailingIf_0 22 rfl) rfl (lv_at hl 2 rfl) ?_
    refine fl_get (j := 0) (v := .ref (Γ.1 165)) C hP rfl (Nat.le_of_ble_eq_true rfl) rfl inX8 (Nat.le_of_ble_eq_true rfl) tw_862 rfl (kd kX8_sailingIf_0 23 rfl) ?_
    refine lv_bipush (v := (97 : Int32)) C.1 C.2.1 (kd kX8_sailingIf_0 24 rfl) (by decide) ?_
    refine lv_iload_n C.1 C.2.1 (kd kX8_sailingIf_0 25 rfl) rfl (lv_at hl 1 rfl) ?_
    obtain ⟨hq, hf⟩ := fb_some hf
    obtain ⟨σ4, eσ4, hf⟩ := fL_some hf
    refine fl_iast C hP hS rfl hq (kd kX8_sailingIf_0 26 rfl) (fun H locs hP hS => ?_)
    have hP : fH Γ σ4 H := by rw [eσ4]; exact hP
    refine lv_iload_n C.1 C.2.1 (kd kX8_sailingIf_0 27 rfl) rfl (lv_at hl 0 rfl) ?_
    exact fl_iret C hP hS hf (kd kX8_sailingIf_0 28 rfl)
  have hf := fif_pos q hf
  refine lv_sipush (v := (-10002 : Int32)) C.1 C.2.1 (kd kX8_sailingIf_0 5 rfl) (by decide) ?_
  exact fl_iret C hP hS hf (kd kX8_sailingIf_0 6 rfl)
def f_X8_bestBerth_b76 (K27 : Int32 → Int32 → Int32 → Int32 → Int32 → fS → Option (Int32 × fS)) (v1 : Int32) (v2 : Int32) (v3 : Int32) (v4 : Int32) (v5 : Int32) (σ : fS) : Option (Int32 × fS) := K27 (v1) (v2) (v3) (v4) ((v5 + (1 : Int32))) σ
set_option maxRecDepth 100000 in
set_option maxHeartbeats 4000000 in
theorem w_X8_bestBerth_b76 {r : Int32} {σ' : fS} {K27 : Int32 → Int32 → Int32 → Int32 → Int32 → fS → Option (Int32 × fS)}  (C : fC Γ p s m args meth c cX8_bestBerth (some .int) RX8 6) (hK27 : ∀ (v1 : Int32) (v2 : Int32) (v3 : Int32) (v4 : Int32) (v5 : Int32) (σ : fS) (H : Heap) (locs : List Loc) (ls : Array Slot), K27 v1 v2 v3 v4 v5 σ = some (r, σ') → fH Γ σ H → va_S (fAd Γ) s.heap H locs → lv_has ls 6 [(0, .ref (Γ.1 164)), (1, .int v1), (2, .int v2), (3, .int v3), (4, .int v4), (5, .int v5)] → W p l e ({ frames := 7, cells := 0, slots := 0, locals := 163 } : Room) s m args below meth c H locs 0 0 (MQ below (fQi Γ r σ') args s 0 0 (fAd Γ)) (F0 m 27 ls [])) : ∀ (v1 : Int32) (v2 : Int32) (v3 : Int32) (v4 : Int32) (v5 : Int32) (σ : fS) (H : Heap) (locs : List Loc) (ls : Array Slot), f_X8_bestBerth_b76 K27 v1 v2 v3 v4 v5 σ = some (r, σ') → fH Γ σ H → va_S (fAd Γ) s.heap H locs → lv_has ls 6 [(0, .ref (Γ.1 164)), (1, .int v1), (2, .int v2), (3, .int v3), (4, .int v4), (5, .int v5)] → W p l e ({ frames := 7, cells := 0, slots := 0, locals := 163 } : Room) s m args below meth c H locs 0 0 (MQ below (fQi Γ r σ') args s 0 0 (fAd Γ)) (F0 m 76 ls []) := by
  intro v1 v2 v3 v4 v5 σ H locs ls hf hP hS hl
  unfold f_X8_bestBerth_b76 at hf
  refine lv_iinc (v := (v5 + (1 : Int32))) (lv' := [(5, .int (v5 + (1 : Int32))), (0, .ref (Γ.1 164)), (1, .int v1), (2, .int v2), (3, .int v3), (4, .int v4)]) C.1 C.2.1 (kd kX8_bestBerth_0 45 rfl) hl (k := 5) rfl rfl (Nat.le_of_ble_eq_true rfl) rfl (fun ls hl => ?_)
  refine lv_goto (tgt := 27) C.1 C.2.1 (kd kX8_bestBerth_0 46 rfl) (by decide) ?_
  exact hK27 (v1) (v2) (v3) (v4) ((v5 + (1 : Int32))) σ H locs ls hf hP hS (lv_sub hl [1, 2, 3, 4, 5, 0] rfl)
def f_X8_bestBerth_b27 : Nat → Int32 → Int32 → Int32 → Int32 → Int32 → fS → Option (Int32 × fS)
  | 0, _, _, _, _, _, _ => none
  | n_ + 1, v1, v2, v3, v4, v5, σ => fb (115 : Int32) 277 ((if (σ 165 (115 : Int32).toNatClampNeg) ≤ v5 then fb (((123 : Int32) + ((4 : Int32) * v1)) + (1 : Int32)) 277 (fL (fu σ 165 (((123 : Int32) + ((4 : Int32) * v1)) + (1 : Int32)).toNatClampNeg v2) (fun σ1 => some (v3, σ1))) else fb (((123 : Int32) + ((4 : Int32) * v1)) + (1 : Int32)) 277 (fL (fu σ 165 (((123 : Int32) + ((4 : Int32) * v1)) + (1 : Int32)).toNatClampNeg v5) (fun σ2 => fcallv (f_X8_tell σ2) (fun σ3 => fcall (f_X8_allAboard σ3) (fun r4_ σ4 => (if r4_ ≤ v4 then f_X8_bestBerth_b76 (fun v1 v2 v3 v4 v5 σ => f_X8_bestBerth_b27 n_ v1 v2 v3 v4 v5 σ) (v1) (v2) (v3) (v4) (v5) σ4 else fcall (f_X8_allAboard σ4) (fun r5_ σ5 => f_X8_bestBerth_b76 (fun v1 v2 v3 v4 v5 σ => f_X8_bestBerth_b27 n_ v1 v2 v3 v4 v5 σ) (v1) (v2) (v5) (r5_) (v5) σ5))))))))
set_option maxRecDepth 100000 in
set_option maxHeartbeats 4000000 in
theorem w_X8_bestBerth_b27 {r : Int32} {σ' : fS}  (C : fC Γ p s m args meth c cX8_bestBerth (some .int) RX8 6) : ∀ (n_ : Nat) (v1 : Int32) (v2 : Int32) (v3 : Int32) (v4 : Int32) (v5 : Int32) (σ : fS) (H : Heap) (locs : List Loc) (ls : Array Slot), f_X8_bestBerth_b27 n_ v1 v2 v3 v4 v5 σ = some (r, σ') → fH Γ σ H → va_S (fAd Γ) s.heap H locs → lv_has ls 6 [(0, .ref (Γ.1 164)), (1, .int v1), (2, .int v2), (3, .int v3), (4, .int v4), (5, .int v5)] → W p l e ({ frames := 7, cells := 0, slots := 0, locals := 163 } : Room) s m args below meth c H locs 0 0 (MQ below (fQi Γ r σ') args s 0 0 (fAd Γ)) (F0 m 27 ls []) := by
  intro n_
  induction n_ with
  | zero =>
    intro v1 v2 v3 v4 v5 σ H locs ls hf
    cases hf
  | succ n_ ih =>
    intro v1 v2 v3 v4 v5 σ H locs ls hf hP hS hl
    have hf : fb (115 : Int32) 277 ((if (σ 165 (115 : Int32).toNatClampNeg) ≤ v5 then fb (((123 : Int32) + ((4 : Int32) * v1)) + (1 : Int32)) 277 (fL (fu σ 165 (((123 : Int32) + ((4 : Int32) * v1)) + (1 : Int32)).toNatClampNeg v2) (fun σ1 => some (v3, σ1))) else fb (((123 : Int32) + ((4 : Int32) * v1)) + (1 : Int32)) 277 (fL (fu σ 165 (((123 : Int32) + ((4 : Int32) * v1)) + (1 : Int32)).toNatClampNeg v5) (fun σ2 => fcallv (f_X8_tell σ2) (fun σ3 => fcall (f_X8_allAboard σ3) (fun r4_ σ4 => (if r4_ ≤ v4 then f_X8_bestBerth_b76 (fun v1 v2 v3 v4 v5 σ => f_X8_bestBerth_b27 n_ v1 v2 v3 v4 v5 σ) (v1) (v2) (v3) (v4) (v5) σ4 else fcall (f_X8_allAboard σ4) (fun r5_ σ5 => f_X8_bestBerth_b76 (fun v1 v2 v3 v4 v5 σ => f_X8_bestBerth_b27 n_ v1 v2 v3 v4 v5 σ) (v1) (v2) (v5) (r5_) (v5) σ5)))))))) = some (r, σ') := hf
    have hK27 := ih
    refine lv_iload C.1 C.2.1 (kd kX8_bestBerth_0 17 rfl) (lv_at hl 5 rfl) ?_
    refine lv_aload_n C.1 C.2.1 (kd kX8_bestBerth_0 18 rfl) rfl (lv_at hl 0 rfl) ?_
    refine fl_get (j := 0) (v := .ref (Γ.1 165)) C hP rfl (Nat.le_of_ble_eq_true rfl) rfl inX8 (Nat.le_of_ble_eq_true rfl) tw_862 rfl (kd kX8_bestBerth_0 19 rfl) ?_
    refine lv_bipush (v := (115 : Int32)) C.1 C.2.1 (kd kX8_bestBerth_0 20 rfl) (by decide) ?_
    obtain ⟨hq, hf⟩ := fb_some hf
    refine fl_iald C hP rfl hq (kd kX8_bestBerth_0 21 rfl) ?_
    refine lv_icmp_ge (tgt := 82) C.1 C.2.1 (kd kX8_bestBerth_0 22 rfl) (by decide) (fun q => ?_) (fun q => ?_)
    · have hf := fif_pos q hf
      refine lv_aload_n C.1 C.2.1 (kd kX8_bestBerth_0 47 rfl) rfl (lv_at hl 0 rfl) ?_
      refine fl_get (j := 0) (v := .ref (Γ.1 165)) C hP rfl (Nat.le_of_ble_eq_true rfl) rfl inX8 (Nat.le_of_ble_eq_true rfl) tw_862 rfl (kd kX8_bestBerth_0 48 rfl) ?_
      refine lv_bipush (v := (123 : Int32)) C.1 C.2.1 (kd kX8_bestBerth_0 49 rfl) (by decide) ?_
      refine lv_iconst (v := (4 : Int32)) C.1 C.2.1 (kd kX8_bestBerth_0 50 rfl) (by decide) ?_
      refine lv_iload_n C.1 C.2.1 (kd kX8_bestBerth_0 51 rfl) rfl (lv_at hl 1 rfl) ?_
      refine lv_imul C.1 C.2.1 (kd kX8_bestBerth_0 52 rfl) ?_
      refine lv_iadd C.1 C.2.1 (kd kX8_bestBerth_0 53 rfl) ?_
      refine lv_iconst (v := (1 : Int32)) C.1 C.2.1 (kd kX8_bestBerth_0 54 rfl) (by decide) ?_
      refine lv_iadd C.1 C.2.1 (kd kX8_bestBerth_0 55 rfl) ?_
      refine lv_iload_n C.1 C.2.1 (kd kX8_bestBerth_0 56 rfl) rfl (lv_at hl 2 rfl) ?_
      obtain ⟨hq, hf⟩ := fb_some hf
      obtain ⟨σ1, eσ1, hf⟩ := fL_some hf
      refine fl_iast C hP hS rfl hq (kd kX8_bestBerth_0 57 rfl) (fun H locs hP hS => ?_)
      have hP : fH Γ σ1 H := by rw [eσ1]; exact hP
      refine lv_iload_n C.1 C.2.1 (kd kX8_bestBerth_0 58 rfl) rfl (lv_at hl 3 rfl) ?_
      exact fl_iret C hP hS hf (kd kX8_bestBerth_0 59 rfl)
    have hf := fif_neg q hf
    refine lv_aload_n C.1 C.2.1 (kd kX8_bestBerth_0 23 rfl) rfl (lv_at hl 0 rfl) ?_
    refine fl_get (j := 0) (v := .ref (Γ.1 165)) C hP rfl (Nat.le_of_ble_eq_true rfl) rfl inX8 (Nat.le_of_ble_eq_true rfl) tw_862 rfl (kd kX8_bestBerth_0 24 rfl) ?_
    refine lv_bipush (v := (123 : Int32)) C.1 C.2.1 (kd kX8_bestBerth_0 25 rfl) (by decide) ?_
    refine lv_iconst (v := (4 : Int32)) C.1 C.2.1 (kd kX8_bestBerth_0 26 rfl) (by decide) ?_
    refine lv_iload_n C.1 C.2.1 (kd kX8_bestBerth_0 27 rfl) rfl (lv_at hl 1 rfl) ?_
    refine lv_imul C.1 C.2.1 (kd kX8_bestBerth_0 28 rfl) ?_
    refine lv_iadd C.1 C.2.1 (kd kX8_bestBerth_0 29 rfl) ?_
    refine lv_iconst (v := (1 : Int32)) C.1 C.2.1 (kd kX8_bestBerth_0 30 rfl) (by decide) ?_
    refine lv_iadd C.1 C.2.1 (kd kX8_bestBerth_0 31 rfl) ?_
    refine lv_iload C.1 C.2.1 (kd kX8_bestBerth_0 32 rfl) (lv_at hl 5 rfl) ?_
    obtain ⟨hq, hf⟩ := fb_some hf
    obtain ⟨σ2, eσ2, hf⟩ := fL_some hf
    refine fl_iast C hP hS rfl hq (kd kX8_bestBerth_0 33 rfl) (fun H locs hP hS => ?_)
    have hP : fH Γ σ2 H := by rw [eσ2]; exact hP
    refine lv_aload_n C.1 C.2.1 (kd kX8_bestBerth_0 34 rfl) rfl (lv_at hl 0 rfl) ?_
    obtain ⟨σ3, hσ3, hf⟩ := fcallv_some hf
    refine fl_v hS (fl_runV (As := []) (rest := []) C hP rfl (Nat.le_of_ble_eq_true rfl) rfl (m_X8_tell C.2.2.2.2.2.2.2.2 l  hσ3) (fgV tw_1110 tw_1112 tw_41 tw_75 tw_1113) hd_X8_tell ⟨rfl, rfl, Nat.le_of_ble_eq_true rfl, Nat.le_of_ble_eq_true rfl⟩ rfl hl.1 rfl (Nat.le_of_ble_eq_true rfl) (kd kX8_bestBerth_0 35 rfl)) (fun H locs hP hS => ?_)
    refine lv_aload_n C.1 C.2.1 (kd kX8_bestBerth_0 36 rfl) rfl (lv_at hl 0 rfl) ?_
    obtain ⟨r4_, σ4, hσ4, hf⟩ := fcall_some hf
    refine fl_i hS (fl_runV (As := []) (rest := []) C hP rfl (Nat.le_of_ble_eq_true rfl) rfl (m_X8_allAboard C.2.2.2.2.2.2.2.2 l  hσ4) (fgV tw_1273 tw_1275 tw_63 tw_75 tw_1276) hd_X8_allAboard ⟨rfl, rfl, Nat.le_of_ble_eq_true rfl, Nat.le_of_ble_eq_true rfl⟩ rfl hl.1 rfl (Nat.le_of_ble_eq_true rfl) (kd kX8_bestBerth_0 37 rfl)) (fun H locs hP hS => ?_)
    refine lv_iload C.1 C.2.1 (kd kX8_bestBerth_0 38 rfl) (lv_at hl 4 rfl) ?_
    refine lv_icmp_le (tgt := 76) C.1 C.2.1 (kd kX8_bestBerth_0 39 rfl) (by decide) (fun q => ?_) (fun q => ?_)
    · have hf := fif_pos q hf
      exact w_X8_bestBerth_b76 C hK27 (v1) (v2) (v3) (v4) (v5) σ4 H locs ls hf hP hS (lv_sub hl [0, 1, 2, 3, 4, 5] rfl)
    have hf := fif_neg q hf
    refine lv_aload_n C.1 C.2.1 (kd kX8_bestBerth_0 40 rfl) rfl (lv_at hl 0 rfl) ?_
    obtain ⟨r5_, σ5, hσ5, hf⟩ := fcall_some hf
    refine fl_i hS (fl_runV (As := []) (rest := []) C hP rfl (Nat.le_of_ble_eq_true rfl) rfl (m_X8_allAboard C.2.2.2.2.2.2.2.2 l  hσ5) (fgV tw_1273 tw_1275 tw_63 tw_75 tw_1276) hd_X8_allAboard ⟨rfl, rfl, Nat.le_of_ble_eq_true rfl, Nat.le_of_ble_eq_true rfl⟩ rfl hl.1 rfl (Nat.le_of_ble_eq_true rfl) (kd kX8_bestBerth_0 41 rfl)) (fun H locs hP hS => ?_)
    refine lv_istore (lv' := [(4, .int r5_), (0, .ref (Γ.1 164)), (1, .int v1), (2, .int v2), (3, .int v3), (5, .int v5)]) C.1 C.2.1 (kd kX8_bestBerth_0 42 rfl) hl (Nat.le_of_ble_eq_true rfl) rfl (fun ls hl => ?_)
    refine lv_iload C.1 C.2.1 (kd kX8_bestBerth_0 43 rfl) (lv_at hl 5 rfl) ?_
    refine lv_istore_n (lv' := [(3, .int v5), (4, .int r5_), (0, .ref (Γ.1 164)), (1, .int v1), (2, .int v2), (5, .int v5)]) C.1 C.2.1 (kd kX8_bestBerth_0 44 rfl) rfl hl (Nat.le_of_ble_eq_true rfl) rfl (fun ls hl => ?_)
    exact w_X8_bestBerth_b76 C hK27 (v1) (v2) (v5) (r5_) (v5) σ5 H locs ls hf hP hS (lv_sub hl [2, 3, 4, 0, 1, 5] rfl)
def f_X8_bestBerth (x1 : Int32) (σ : fS) : Option (Int32 × fS) := fcall (f_X8_isCrossing x1 σ) (fun r1_ σ1 => (if r1_ = 0 then some ((-10001 : Int32), σ1) else fcall (f_X8_of x1 (1 : Int32) σ1) (fun r2_ σ2 => f_X8_bestBerth_b27 fN (x1) (r2_) ((-1 : Int32)) ((-1 : Int32)) ((0 : Int32)) σ2)))
set_option maxRecDepth 100000 in
set_option maxHeartbeats 4000000 in
theorem m_X8_bestBerth {Γ : fGm} (hI : fI Γ) (l : Launch) {x1 : Int32} {σ : fS} {r : Int32} {σ' : fS} (hf : f_X8_bestBerth x1 σ = some (r, σ')) : Met l yX8_bestBerth (.code yX8_bestBerth cX8_bestBerth 6 (some .int) :: lw_g) ({ frames := 7, cells := 0, slots := 0, locals := 163 } : Room) (fPre Γ [.ref (Γ.1 164), .int x1] σ) (fQi Γ r σ') 0 0 (fAd Γ) := by
  refine fl_enter (own := RX8) hI (by decide +kernel) rfl (Nat.le_of_ble_eq_true rfl) ?_
  intro p e s m args below meth c ls C hl hP hS
  have hl : lv_has ls 6 [(0, .ref (Γ.1 164)), (1, .int x1)] := hl
  obtain ⟨H, hH⟩ : ∃ H, H = s.heap := ⟨_, rfl⟩
  obtain ⟨locs, hL⟩ : ∃ L : List Loc, L = [] := ⟨_, rfl⟩
  have hP : fH Γ σ H := by rw [hH]; exact hP
  have hS : va_S (fAd Γ) s.heap H locs := by rw [hH, hL]; exact hS
  suffices hw : W p l e ({ frames := 7, cells := 0, slots := 0, locals := 163 } : Room) s m args below meth c H locs 0 0 (MQ below (fQi Γ r σ') args s 0 0 (fAd Γ)) (F0 m 0 ls []) by rw [hH, hL] at hw; exact hw
  unfold f_X8_bestBerth at hf
  refine lv_aload_n C.1 C.2.1 (kd kX8_bestBerth_0 0 rfl) rfl (lv_at hl 0 rfl) ?_
  refine lv_iload_n C.1 C.2.1 (kd kX8_bestBerth_0 1 rfl) rfl (lv_at hl 1 rfl) ?_
  obtain ⟨r1_, σ1, hσ1, hf⟩ := fcall_some hf
  refine fl_i hS (fl_runV (As := [.int x1]) (rest := []) C hP rfl (Nat.le_of_ble_eq_true rfl) rfl (m_X8_isCrossing C.2.2.2.2.2.2.2.2 l  hσ1) (fgV tw_1010 tw_1012 tw_28 tw_75 tw_1013) hd_X8_isCrossing ⟨rfl, rfl, Nat.le_of_ble_eq_true rfl, Nat.le_of_ble_eq_true rfl⟩ rfl hl.1 rfl (Nat.le_of_ble_eq_true rfl) (kd kX8_bestBerth_0 2 rfl)) (fun H locs hP hS => ?_)
  refine lv_if_ne (tgt := 12) C.1 C.2.1 (kd kX8_bestBerth_0 3 rfl) (by decide) (fun q => ?_) (fun q => ?_)
  · have hf := fif_neg q hf
    refine lv_aload_n C.1 C.2.1 (kd kX8_bestBerth_0 6 rfl) rfl (lv_at hl 0 rfl) ?_
    refine lv_iload_n C.1 C.2.1 (kd kX8_bestBerth_0 7 rfl) rfl (lv_at hl 1 rfl) ?_
    refine lv_iconst (v := (1 : Int32)) C.1 C.2.1 (kd kX8_bestBerth_0 8 rfl) (by decide) ?_
    obtain ⟨r2_, σ2, hσ2, hf⟩ := fcall_some hf
    refine fl_i hS (fl_runV (As := [.int x1, .int (1 : Int32)]) (rest := []) C hP rfl (Nat.le_of_ble_eq_true rfl) rfl (m_X8_of C.2.2.2.2.2.2.2.2 l  hσ2) (fgV tw_1118 tw_1120 tw_43 tw_75 tw_1121) hd_X8_of ⟨rfl, rfl, Nat.le_of_ble_eq_true rfl, Nat.le_of_ble_eq_true rfl⟩ rfl hl.1 rfl (Nat.le_of_ble_eq_true rfl) (kd kX8_bestBerth_0 9 rfl)) (fun H locs hP hS => ?_)
    refine lv_istore_n (lv' := [(2, .int r2_), (0, .ref (Γ.1 164)), (1, .int x1)]) C.1 C.2.1 (kd kX8_bestBerth_0 10 rfl) rfl hl (Nat.le_of_ble_eq_true rfl) rfl (fun ls hl => ?_)
    refine lv_iconst (v := (-1 : Int32)) C.1 C.2.1 (kd kX8_bestBerth_0 11 rfl) (by decide) ?_
    refine lv_istore_n (lv' := [(3, .int (-1 : Int32)), (2, .int r2_), (0, .ref (Γ.1 164)), (1, .int x1)]) C.1 C.2.1 (kd kX8_bestBerth_0 12 rfl) rfl hl (Nat.le_of_ble_eq_true rfl) rfl (fun ls hl => ?_)
    refine lv_iconst (v := (-1 : Int32)) C.1 C.2.1 (kd kX8_bestBerth_0 13 rfl) (by decide) ?_
    refine lv_istore (lv' := [(4, .int (-1 : Int32)), (3, .int (-1 : Int32)), (2, .int r2_), (0, .ref (Γ.1 164)), (1, .int x1)]) C.1 C.2.1 (kd kX8_bestBerth_0 14 rfl) hl (Nat.le_of_ble_eq_true rfl) rfl (fun ls hl => ?_)
    refine lv_iconst (v := (0 : Int32)) C.1 C.2.1 (kd kX8_bestBerth_0 15 rfl) (by decide) ?_
    refine lv_istore (lv' := [(5, .int (0 : Int32)), (4, .int (-1 : Int32)), (3, .int (-1 : Int32)), (2, .int r2_), (0, .ref (Γ.1 164)), (1, .int x1)]) C.1 C.2.1 (kd kX8_bestBerth_0 16 rfl) hl (Nat.le_of_ble_eq_true rfl) rfl (fun ls hl => ?_)
    exact w_X8_bestBerth_b27 C fN (x1) (r2_) ((-1 : Int32)) ((-1 : Int32)) ((0 : Int32)) σ2 H locs ls hf hP hS (lv_sub hl [4, 5, 3, 2, 1, 0] rfl)
  have hf := fif_pos q hf
  refine lv_sipush (v := (-10001 : Int32)) C.1 C.2.1 (kd kX8_bestBerth_0 4 rfl) (by decide) ?_
  exact fl_iret C hP hS hf (kd kX8_bestBerth_0 5 rfl)
def f_X8_isPlace (x0 : Int32) (x1 : Int32) (σ : fS) : Option (Int32 × fS) := fcall (f_X8_in x0 (0 : Int32) (2 : Int32) σ) (fun r1_ σ1 => (if r1_ = 0 then some ((0 : Int32), σ1) else fcall (f_X8_in x1 (0 : Int32) (2 : Int32) σ1) (fun r2_ σ2 => (if r2_ = 0 then some ((0 : Int32), σ2) else some ((1 : Int32), σ2)))))
set_option maxRecDepth 100000 in
set_option maxHeartbeats 4000000 in
theorem m_X8_isPlace {Γ : fGm} (hI : fI Γ) (l : Launch) {x0 : Int32} {x1 : Int32} {σ : fS} {r : Int32} {σ' : fS} (hf : f_X8_isPlace x0 x1 σ = some (r, σ')) : Met l yX8_isPlace (.code yX8_isPlace cX8_isPlace 2 (some .boolean) :: lw_g) ({ frames := 1, cells := 0, slots := 0, locals := 22 } : Room) (fPre Γ [.int x0, .int x1] σ) (fQi Γ r σ') 0 0 (fAd Γ) := by
  refine fl_enter (own := RX8) hI (by decide +kernel) rfl (Nat.le_of_ble_eq_true rfl) ?_
  intro p e s m args below meth c ls C hl hP hS
  have hl : lv_has ls 2 [(0, .int x0), (1, .int x1)] := hl
  obtain ⟨H, hH⟩ : ∃ H, H = s.heap := ⟨_, rfl⟩
  obtain ⟨locs, hL⟩ : ∃ L : List Loc, L = [] := ⟨_, rfl⟩
  have hP : fH Γ σ H := by rw [hH]; exact hP
  have hS : va_S (fAd Γ) s.heap H locs := by rw [hH, hL]; exact hS
  suffices hw : W p l e ({ frames := 1, cells := 0, slots := 0, locals := 22 } : Room) s m args below meth c H locs 0 0 (MQ below (fQi Γ r σ') args s 0 0 (fAd Γ)) (F0 m 0 ls []) by rw [hH, hL] at hw; exact hw
  unfold f_X8_isPlace at hf
  refine lv_iload_n C.1 C.2.1 (kd kX8_isPlace_0 0 rfl) rfl (lv_at hl 0 rfl) ?_
  refine lv_iconst (v := (0 : Int32)) C.1 C.2.1 (kd kX8_isPlace_0 1 rfl) (by decide) ?_
  refine lv_iconst (v := (2 : Int32)) C.1 C.2.1 (kd kX8_isPlace_0 2 rfl) (by decide) ?_
  obtain ⟨r1_, σ1, hσ1, hf⟩ := fcall_some hf
  refine fl_i hS (fl_runS (As := [.int x0, .int (0 : Int32), .int (2 : Int32)]) (rest := []) C hP (m_X8_in C.2.2.2.2.2.2.2.2 l  hσ1) (fgS tw_968 tw_969 tw_75 tw_970) hs_X8_in ⟨rfl, rfl, Nat.le_of_ble_eq_true rfl, Nat.le_of_ble_eq_true rfl⟩ rfl hl.1 rfl (Nat.le_of_ble_eq_true rfl) (kd kX8_isPlace_0 3 rfl)) (fun H locs hP hS => ?_)
  refine lv_if_eq (tgt := 22) C.1 C.2.1 (kd kX8_isPlace_0 4 rfl) (by decide) (fun q => ?_) (fun q => ?_)
  · have hf := fif_pos q hf
    refine lv_iconst (v := (0 : Int32)) C.1 C.2.1 (kd kX8_isPlace_0 12 rfl) (by decide) ?_
    exact fl_zret C hP hS rfl hf (kd kX8_isPlace_0 13 rfl)
  have hf := fif_neg q hf
  refine lv_iload_n C.1 C.2.1 (kd kX8_isPlace_0 5 rfl) rfl (lv_at hl 1 rfl) ?_
  refine lv_iconst (v := (0 : Int32)) C.1 C.2.1 (kd kX8_isPlace_0 6 rfl) (by decide) ?_
  refine lv_iconst (v := (2 : Int32)) C.1 C.2.1 (kd kX8_isPlace_0 7 rfl) (by decide) ?_
  obtain ⟨r2_, σ2, hσ2, hf⟩ := fcall_some hf
  refine fl_i hS (fl_runS (As := [.int x1, .int (0 : Int32), .int (2 : Int32)]) (rest := []) C hP (m_X8_in C.2.2.2.2.2.2.2.2 l  hσ2) (fgS tw_968 tw_969 tw_75 tw_970) hs_X8_in ⟨rfl, rfl, Nat.le_of_ble_eq_true rfl, Nat.le_of_ble_eq_true rfl⟩ rfl hl.1 rfl (Nat.le_of_ble_eq_true rfl) (kd kX8_isPlace_0 8 rfl)) (fun H locs hP hS => ?_)
  refine lv_if_eq (tgt := 22) C.1 C.2.1 (kd kX8_isPlace_0 9 rfl) (by decide) (fun q => ?_) (fun q => ?_)
  · have hf := fif_pos q hf
    refine lv_iconst (v := (0 : Int32)) C.1 C.2.1 (kd kX8_isPlace_0 12 rfl) (by decide) ?_
    exact fl_zret C hP hS rfl hf (kd kX8_isPlace_0 13 rfl)
  have hf := fif_neg q hf
  refine lv_iconst (v := (1 : Int32)) C.1 C.2.1 (kd kX8_isPlace_0 10 rfl) (by decide) ?_
  refine lv_goto (tgt := 23) C.1 C.2.1 (kd kX8_isPlace_0 11 rfl) (by decide) ?_
  exact fl_zret C hP hS rfl hf (kd kX8_isPlace_0 13 rfl)
def f_X8_layDown_b134 (K86 : Int32 → Int32 → Int32 → Int32 → Int32 → fS → Option (Int32 × fS)) (v1 : Int32) (v3 : Int32) (v4 : Int32) (v5 : Int32) (v6 : Int32) (s0 : Int32) (s1 : Int32) (σ : fS) : Option (Int32 × fS) := fb s1 36 (fL (fu σ 188 s1.toNatClampNeg s0) (fun σ1 => K86 (v1) (v3) (v4) (v5) ((v6 + (1 : Int32))) σ1))
set_option maxRecDepth 100000 in
set_option maxHeartbeats 4000000 in
theorem w_X8_layDown_b134 {r : Int32} {σ' : fS} {K86 : Int32 → Int32 → Int32 → Int32 → Int32 → fS → Option (Int32 × fS)}  (C : fC Γ p s m args meth c cX8_layDown (some .int) RX8 8) (hK86 : ∀ (v1 : Int32) (v3 : Int32) (v4 : Int32) (v5 : Int32) (v6 : Int32) (σ : fS) (H : Heap) (locs : List Loc) (ls : Array Slot), K86 v1 v3 v4 v5 v6 σ = some (r, σ') → fH Γ σ H → va_S (fAd Γ) s.heap H locs → lv_has ls 8 [(0, .ref (Γ.1 164)), (1, .int v1), (3, .int v3), (4, .int v4), (5, .int v5), (6, .int v6)] → W p l e ({ frames := 2, cells := 0, slots := 0, locals := 43 } : Room) s m args below meth c H locs 0 0 (MQ below (fQi Γ r σ') args s 0 0 (fAd Γ)) (F0 m 86 ls [])) : ∀ (v1 : Int32) (v3 : Int32) (v4 : Int32) (v5 : Int32) (v6 : Int32) (s0 : Int32) (s1 : Int32) (σ : fS) (H : Heap) (locs : List Loc) (ls : Array Slot), f_X8_layDown_b134 K86 v1 v3 v4 v5 v6 s0 s1 σ = some (r, σ') → fH Γ σ H → va_S (fAd Γ) s.heap H locs → lv_has ls 8 [(0, .ref (Γ.1 164)), (1, .int v1), (3, .int v3), (4, .int v4), (5, .int v5), (6, .int v6)] → W p l e ({ frames := 2, cells := 0, slots := 0, locals := 43 } : Room) s m args below meth c H locs 0 0 (MQ below (fQi Γ r σ') args s 0 0 (fAd Γ)) (F0 m 134 ls [.int s0, .int s1, .ref (Γ.1 188)]) := by
  intro v1 v3 v4 v5 v6 s0 s1 σ H locs ls hf hP hS hl
  unfold f_X8_layDown_b134 at hf
  obtain ⟨hq, hf⟩ := fb_some hf
  obtain ⟨σ1, eσ1, hf⟩ := fL_some hf
  refine fl_iast C hP hS rfl hq (kd kX8_layDown_1 12 rfl) (fun H locs hP hS => ?_)
  have hP : fH Γ σ1 H := by rw [eσ1]; exact hP
  refine lv_iinc (v := (v6 + (1 : Int32))) (lv' := [(6, .int (v6 + (1 : Int32))), (0, .ref (Γ.1 164)), (1, .int v1), (3, .int v3), (4, .int v4), (5, .int v5)]) C.1 C.2.1 (kd kX8_layDown_1 13 rfl) hl (k := 5) rfl rfl (Nat.le_of_ble_eq_true rfl) rfl (fun ls hl => ?_)
  refine lv_goto (tgt := 86) C.1 C.2.1 (kd kX8_layDown_1 14 rfl) (by decide) ?_
  exact hK86 (v1) (v3) (v4) (v5) ((v6 + (1 : Int32))) σ1 H locs ls hf hP hS (lv_sub hl [1, 2, 3, 4, 5, 0] rfl)
def f_X8_layDown_b174 (K147 : Int32 → Int32 → Int32 → fS → Option (Int32 × fS)) (v1 : Int32) (v7 : Int32) (s0 : Int32) (s1 : Int32) (σ : fS) : Option (Int32 × fS) := K147 (v1) ((s1 + s0)) ((v7 + (1 : Int32))) σ
set_option maxRecDepth 100000 in
set_option maxHeartbeats 4000000 in
theorem w_X8_layDown_b174 {r : Int32} {σ' : fS} {K147 : Int32 → Int32 → Int32 → fS → Option (Int32 × fS)}  (C : fC Γ p s m args meth c cX8_layDown (some .int) RX8 8) (hK147 : ∀ (v1 : Int32) (v6 : Int32) (v7 : Int32) (σ : fS) (H : Heap) (locs : List Loc) (ls : Array Slot), K147 v1 v6 v7 σ = some (r, σ') → fH Γ σ H → va_S (fAd Γ) s.heap H locs → lv_has ls 8 [(0, .ref (Γ.1 164)), (1, .int v1), (6, .int v6), (7, .int v7)] → W p l e ({ frames := 2, cells := 0, slots := 0, locals := 43 } : Room) s m args below meth c H locs 0 0 (MQ below (fQi Γ r σ') args s 0 0 (fAd Γ)) (F0 m 147 ls [])) : ∀ (v1 : Int32) (v7 : Int32) (s0 : Int32) (s1 : Int32) (σ : fS) (H : Heap) (locs : List Loc) (ls : Array Slot), f_X8_layDown_b174 K147 v1 v7 s0 s1 σ = some (r, σ') → fH Γ σ H → va_S (fAd Γ) s.heap H locs → lv_has ls 8 [(0, .ref (Γ.1 164)), (1, .int v1), (7, .int v7)] → W p l e ({ frames := 2, cells := 0, slots := 0, locals := 43 } : Room) s m args below meth c H locs 0 0 (MQ below (fQi Γ r σ') args s 0 0 (fAd Γ)) (F0 m 174 ls [.int s0, .int s1]) := by
  intro v1 v7 s0 s1 σ H locs ls hf hP hS hl
  unfold f_X8_layDown_b174 at hf
  refine lv_iadd C.1 C.2.1 (kd kX8_layDown_1 35 rfl) ?_
  refine lv_istore (lv' := [(6, .int (s1 + s0)), (0, .ref (Γ.1 164)), (1, .int v1), (7, .int v7)]) C.1 C.2.1 (kd kX8_layDown_1 36 rfl) hl (Nat.le_of_ble_eq_true rfl) rfl (fun ls hl => ?_)
  refine lv_iinc (v := (v7 + (1 : Int32))) (lv' := [(7, .int (v7 + (1 : Int32))), (6, .int (s1 + s0)), (0, .ref (Γ.1 164)), (1, .int v1)]) C.1 C.2.1 (kd kX8_layDown_1 37 rfl) hl (k := 3) rfl rfl (Nat.le_of_ble_eq_true rfl) rfl (fun ls hl => ?_)
  refine lv_goto (tgt := 147) C.1 C.2.1 (kd kX8_layDown_1 38 rfl) (by decide) ?_
  exact hK147 (v1) ((s1 + s0)) ((v7 + (1 : Int32))) σ H locs ls hf hP hS (lv_sub hl [2, 3, 1, 0] rfl)
def f_X8_layDown_b147 : Nat → Int32 → Int32 → Int32 → fS → Option (Int32 × fS)
  | 0, _, _, _, _ => none
  | n_ + 1, v1, v6, v7, σ => (if (3 : Int32) ≤ v7 then some (v6, σ) else fb (((3 : Int32) * v1) + v7) 9 ((if (σ 187 (((3 : Int32) * v1) + v7).toNatClampNeg) < 0 then f_X8_layDown_b174 (fun v1 v6 v7 σ => f_X8_layDown_b147 n_ v1 v6 v7 σ) (v1) (v7) ((0 : Int32)) (v6) σ else f_X8_layDown_b174 (fun v1 v6 v7 σ => f_X8_layDown_b147 n_ v1 v6 v7 σ) (v1) (v7) ((1 : Int32)) (v6) σ)))
set_option maxRecDepth 100000 in
set_option maxHeartbeats 4000000 in
theorem w_X8_layDown_b147 {r : Int32} {σ' : fS}  (C : fC Γ p s m args meth c cX8_layDown (some .int) RX8 8) : ∀ (n_ : Nat) (v1 : Int32) (v6 : Int32) (v7 : Int32) (σ : fS) (H : Heap) (locs : List Loc) (ls : Array Slot), f_X8_layDown_b147 n_ v1 v6 v7 σ = some (r, σ') → fH Γ σ H → va_S (fAd Γ) s.heap H locs → lv_has ls 8 [(0, .ref (Γ.1 164)), (1, .int v1), (6, .int v6), (7, .int v7)] → W p l e ({ frames := 2, cells := 0, slots := 0, locals := 43 } : Room) s m args below meth c H locs 0 0 (MQ below (fQi Γ r σ') args s 0 0 (fAd Γ)) (F0 m 147 ls []) := by
  intro n_
  induction n_ with
  | zero =>
    intro v1 v6 v7 σ H locs ls hf
    cases hf
  | succ n_ ih =>
    intro v1 v6 v7 σ H locs ls hf hP hS hl
    have hf : (if (3 : Int32) ≤ v7 then some (v6, σ) else fb (((3 : Int32) * v1) + v7) 9 ((if (σ 187 (((3 : Int32) * v1) + v7).toNatClampNeg) < 0 then f_X8_layDown_b174 (fun v1 v6 v7 σ => f_X8_layDown_b147 n_ v1 v6 v7 σ) (v1) (v7) ((0 : Int32)) (v6) σ else f_X8_layDown_b174 (fun v1 v6 v7 σ => f_X8_layDown_b147 n_ v1 v6 v7 σ) (v1) (v7) ((1 : Int32)) (v6) σ))) = some (r, σ') := hf
    have hK147 := ih
    refine lv_iload C.1 C.2.1 (kd kX8_layDown_1 19 rfl) (lv_at hl 3 rfl) ?_
    refine lv_iconst (v := (3 : Int32)) C.1 C.2.1 (kd kX8_layDown_1 20 rfl) (by decide) ?_
    refine lv_icmp_ge (tgt := 183) C.1 C.2.1 (kd kX8_layDown_1 21 rfl) (by decide) (fun q => ?_) (fun q => ?_)
    · have hf := fif_pos q hf
      refine lv_iload C.1 C.2.1 (kd kX8_layDown_1 39 rfl) (lv_at hl 2 rfl) ?_
      exact fl_iret C hP hS hf (kd kX8_layDown_1 40 rfl)
    have hf := fif_neg q hf
    refine lv_iload C.1 C.2.1 (kd kX8_layDown_1 22 rfl) (lv_at hl 2 rfl) ?_
    refine lv_aload_n C.1 C.2.1 (kd kX8_layDown_1 23 rfl) rfl (lv_at hl 0 rfl) ?_
    refine fl_get (j := 29) (v := .ref (Γ.1 187)) C hP rfl (Nat.le_of_ble_eq_true rfl) rfl inX8 (Nat.le_of_ble_eq_true rfl) tw_891 rfl (kd kX8_layDown_1 24 rfl) ?_
    refine lv_iconst (v := (3 : Int32)) C.1 C.2.1 (kd kX8_layDown_1 25 rfl) (by decide) ?_
    refine lv_iload_n C.1 C.2.1 (kd kX8_layDown_1 26 rfl) rfl (lv_at hl 1 rfl) ?_
    refine lv_imul C.1 C.2.1 (kd kX8_layDown_1 27 rfl) ?_
    refine lv_iload C.1 C.2.1 (kd kX8_layDown_1 28 rfl) (lv_at hl 3 rfl) ?_
    refine lv_iadd C.1 C.2.1 (kd kX8_layDown_1 29 rfl) ?_
    obtain ⟨hq, hf⟩ := fb_some hf
    refine fl_iald C hP rfl hq (kd kX8_layDown_1 30 rfl) ?_
    refine lv_if_lt (tgt := 173) C.1 C.2.1 (kd kX8_layDown_1 31 rfl) (by decide) (fun q => ?_) (fun q => ?_)
    · have hf := fif_pos q hf
      refine lv_iconst (v := (0 : Int32)) C.1 C.2.1 (kd kX8_layDown_1 34 rfl) (by decide) ?_
      exact w_X8_layDown_b174 C hK147 (v1) (v7) ((0 : Int32)) (v6) σ H locs ls hf hP hS (lv_sub hl [0, 1, 3] rfl)
    have hf := fif_neg q hf
    refine lv_iconst (v := (1 : Int32)) C.1 C.2.1 (kd kX8_layDown_1 32 rfl) (by decide) ?_
    refine lv_goto (tgt := 174) C.1 C.2.1 (kd kX8_layDown_1 33 rfl) (by decide) ?_
    exact w_X8_layDown_b174 C hK147 (v1) (v7) ((1 : Int32)) (v6) σ H locs ls hf hP hS (lv_sub hl [0, 1, 3] rfl)
def f_X8_layDown_b97 (K86 : Int32 → Int32 → Int32 → Int32 → Int32 → fS → Option (Int32 × fS)) (v1 : Int32) (v3 : Int32) (v4 : Int32) (v5 : Int32) (v6 : Int32) (s0 : Int32) (s1 : Int32) (σ : fS) : Option (Int32 × fS) := (if s0 ≤ s1 then f_X8_layDown_b147 fN (v1) ((0 : Int32)) ((0 : Int32)) σ else (if v3 = 0 then fcall (f_X8_shipOf v4 v6 σ) (fun r2_ σ2 => f_X8_layDown_b134 K86 (v1) (v3) (v4) (v5) (v6) (r2_) ((((4 : Int32) * v5) + v6)) σ2) else fcall (f_X8_berthOf v4 v6 σ) (fun r1_ σ1 => f_X8_layDown_b134 K86 (v1) (v3) (v4) (v5) (v6) (r1_) ((((4 : Int32) * v5) + v6)) σ1)))
set_option maxRecDepth 100000 in
set_option maxHeartbeats 4000000 in
theorem w_X8_layDown_b97 {r : Int32} {σ' : fS} {K86 : Int32 → Int32 → Int32 → Int32 → Int32 → fS → Option (Int32 × fS)}  (C : fC Γ p s m args meth c cX8_layDown (some .int) RX8 8) (hK86 : ∀ (v1 : Int32) (v3 : Int32) (v4 : Int32) (v5 : Int32) (v6 : Int32) (σ : fS) (H : Heap) (locs : List Loc) (ls : Array Slot), K86 v1 v3 v4 v5 v6 σ = some (r, σ') → fH Γ σ H → va_S (fAd Γ) s.heap H locs → lv_has ls 8 [(0, .ref (Γ.1 164)), (1, .int v1), (3, .int v3), (4, .int v4), (5, .int v5), (6, .int v6)] → W p l e ({ frames := 2, cells := 0, slots := 0, locals := 43 } : Room) s m args below meth c H locs 0 0 (MQ below (fQi Γ r σ') args s 0 0 (fAd Γ)) (F0 m 86 ls [])) : ∀ (v1 : Int32) (v3 : Int32) (v4 : Int32) (v5 : Int32) (v6 : Int32) (s0 : Int32) (s1 : Int32) (σ : fS) (H : Heap) (locs : List Loc) (ls : Array Slot), f_X8_layDown_b97 K86 v1 v3 v4 v5 v6 s0 s1 σ = some (r, σ') → fH Γ σ H → va_S (fAd Γ) s.heap H locs → lv_has ls 8 [(0, .ref (Γ.1 164)), (1, .int v1), (3, .int v3), (4, .int v4), (5, .int v5), (6, .int v6)] → W p l e ({ frames := 2, cells := 0, slots := 0, locals := 43 } : Room) s m args below meth c H locs 0 0 (MQ below (fQi Γ r σ') args s 0 0 (fAd Γ)) (F0 m 97 ls [.int s0, .int s1]) := by
  intro v1 v3 v4 v5 v6 s0 s1 σ H locs ls hf hP hS hl
  unfold f_X8_layDown_b97 at hf
  refine lv_icmp_ge (tgt := 141) C.1 C.2.1 (kd kX8_layDown_0 53 rfl) (by decide) (fun q => ?_) (fun q => ?_)
  · have hf := fif_pos q hf
    refine lv_iconst (v := (0 : Int32)) C.1 C.2.1 (kd kX8_layDown_1 15 rfl) (by decide) ?_
    refine lv_istore (lv' := [(6, .int (0 : Int32)), (0, .ref (Γ.1 164)), (1, .int v1), (3, .int v3), (4, .int v4), (5, .int v5)]) C.1 C.2.1 (kd kX8_layDown_1 16 rfl) hl (Nat.le_of_ble_eq_true rfl) rfl (fun ls hl => ?_)
    refine lv_iconst (v := (0 : Int32)) C.1 C.2.1 (kd kX8_layDown_1 17 rfl) (by decide) ?_
    refine lv_istore (lv' := [(7, .int (0 : Int32)), (6, .int (0 : Int32)), (0, .ref (Γ.1 164)), (1, .int v1), (3, .int v3), (4, .int v4), (5, .int v5)]) C.1 C.2.1 (kd kX8_layDown_1 18 rfl) hl (Nat.le_of_ble_eq_true rfl) rfl (fun ls hl => ?_)
    exact w_X8_layDown_b147 C fN (v1) ((0 : Int32)) ((0 : Int32)) σ H locs ls hf hP hS (lv_sub hl [2, 3, 1, 0] rfl)
  have hf := fif_neg q hf
  refine lv_aload_n C.1 C.2.1 (kd kX8_layDown_0 54 rfl) rfl (lv_at hl 0 rfl) ?_
  refine fl_get (j := 30) (v := .ref (Γ.1 188)) C hP rfl (Nat.le_of_ble_eq_true rfl) rfl inX8 (Nat.le_of_ble_eq_true rfl) tw_892 rfl (kd kX8_layDown_0 55 rfl) ?_
  refine lv_iconst (v := (4 : Int32)) C.1 C.2.1 (kd kX8_layDown_0 56 rfl) (by decide) ?_
  refine lv_iload C.1 C.2.1 (kd kX8_layDown_0 57 rfl) (lv_at hl 4 rfl) ?_
  refine lv_imul C.1 C.2.1 (kd kX8_layDown_0 58 rfl) ?_
  refine lv_iload C.1 C.2.1 (kd kX8_layDown_0 59 rfl) (lv_at hl 5 rfl) ?_
  refine lv_iadd C.1 C.2.1 (kd kX8_layDown_1 0 rfl) ?_
  refine lv_iload_n C.1 C.2.1 (kd kX8_layDown_1 1 rfl) rfl (lv_at hl 2 rfl) ?_
  refine lv_if_ne (tgt := 126) C.1 C.2.1 (kd kX8_layDown_1 2 rfl) (by decide) (fun q => ?_) (fun q => ?_)
  · have hf := fif_neg q hf
    refine lv_aload_n C.1 C.2.1 (kd kX8_layDown_1 8 rfl) rfl (lv_at hl 0 rfl) ?_
    refine lv_iload C.1 C.2.1 (kd kX8_layDown_1 9 rfl) (lv_at hl 3 rfl) ?_
    refine lv_iload C.1 C.2.1 (kd kX8_layDown_1 10 rfl) (lv_at hl 5 rfl) ?_
    obtain ⟨r1_, σ1, hσ1, hf⟩ := fcall_some hf
    refine fl_i hS (fl_runV (As := [.int v4, .int v6]) (rest := [.int (((4 : Int32) * v5) + v6), .ref (Γ.1 188)]) C hP rfl (Nat.le_of_ble_eq_true rfl) rfl (m_X8_berthOf C.2.2.2.2.2.2.2.2 l  hσ1) (fgV tw_1034 tw_1036 tw_31 tw_75 tw_1037) hd_X8_berthOf ⟨rfl, rfl, Nat.le_of_ble_eq_true rfl, Nat.le_of_ble_eq_true rfl⟩ rfl hl.1 rfl (Nat.le_of_ble_eq_true rfl) (kd kX8_layDown_1 11 rfl)) (fun H locs hP hS => ?_)
    exact w_X8_layDown_b134 C hK86 (v1) (v3) (v4) (v5) (v6) (r1_) ((((4 : Int32) * v5) + v6)) σ1 H locs ls hf hP hS (lv_sub hl [0, 1, 2, 3, 4, 5] rfl)
  have hf := fif_pos q hf
  refine lv_aload_n C.1 C.2.1 (kd kX8_layDown_1 3 rfl) rfl (lv_at hl 0 rfl) ?_
  refine lv_iload C.1 C.2.1 (kd kX8_layDown_1 4 rfl) (lv_at hl 3 rfl) ?_
  refine lv_iload C.1 C.2.1 (kd kX8_layDown_1 5 rfl) (lv_at hl 5 rfl) ?_
  obtain ⟨r2_, σ2, hσ2, hf⟩ := fcall_some hf
  refine fl_i hS (fl_runV (As := [.int v4, .int v6]) (rest := [.int (((4 : Int32) * v5) + v6), .ref (Γ.1 188)]) C hP rfl (Nat.le_of_ble_eq_true rfl) rfl (m_X8_shipOf C.2.2.2.2.2.2.2.2 l  hσ2) (fgV tw_1102 tw_1104 tw_39 tw_75 tw_1105) hd_X8_shipOf ⟨rfl, rfl, Nat.le_of_ble_eq_true rfl, Nat.le_of_ble_eq_true rfl⟩ rfl hl.1 rfl (Nat.le_of_ble_eq_true rfl) (kd kX8_layDown_1 6 rfl)) (fun H locs hP hS => ?_)
  refine lv_goto (tgt := 134) C.1 C.2.1 (kd kX8_layDown_1 7 rfl) (by decide) ?_
  exact w_X8_layDown_b134 C hK86 (v1) (v3) (v4) (v5) (v6) (r2_) ((((4 : Int32) * v5) + v6)) σ2 H locs ls hf hP hS (lv_sub hl [0, 1, 2, 3, 4, 5] rfl)
def f_X8_layDown_b86 : Nat → Int32 → Int32 → Int32 → Int32 → Int32 → fS → Option (Int32 × fS)
  | 0, _, _, _, _, _, _ => none
  | n_ + 1, v1, v3, v4, v5, v6, σ => (if v3 = 0 then f_X8_layDown_b97 (fun v1 v3 v4 v5 v6 σ => f_X8_layDown_b86 n_ v1 v3 v4 v5 v6 σ) (v1) (v3) (v4) (v5) (v6) ((4 : Int32)) (v6) σ else f_X8_layDown_b97 (fun v1 v3 v4 v5 v6 σ => f_X8_layDown_b86 n_ v1 v3 v4 v5 v6 σ) (v1) (v3) (v4) (v5) (v6) ((2 : Int32)) (v6) σ)
set_option maxRecDepth 100000 in
set_option maxHeartbeats 4000000 in
theorem w_X8_layDown_b86 {r : Int32} {σ' : fS}  (C : fC Γ p s m args meth c cX8_layDown (some .int) RX8 8) : ∀ (n_ : Nat) (v1 : Int32) (v3 : Int32) (v4 : Int32) (v5 : Int32) (v6 : Int32) (σ : fS) (H : Heap) (locs : List Loc) (ls : Array Slot), f_X8_layDown_b86 n_ v1 v3 v4 v5 v6 σ = some (r, σ') → fH Γ σ H → va_S (fAd Γ) s.heap H locs → lv_has ls 8 [(0, .ref (Γ.1 164)), (1, .int v1), (3, .int v3), (4, .int v4), (5, .int v5), (6, .int v6)] → W p l e ({ frames := 2, cells := 0, slots := 0, locals := 43 } : Room) s m args below meth c H locs 0 0 (MQ below (fQi Γ r σ') args s 0 0 (fAd Γ)) (F0 m 86 ls []) := by
  intro n_
  induction n_ with
  | zero =>
    intro v1 v3 v4 v5 v6 σ H locs ls hf
    cases hf
  | succ n_ ih =>
    intro v1 v3 v4 v5 v6 σ H locs ls hf hP hS hl
    have hf : (if v3 = 0 then f_X8_layDown_b97 (fun v1 v3 v4 v5 v6 σ => f_X8_layDown_b86 n_ v1 v3 v4 v5 v6 σ) (v1) (v3) (v4) (v5) (v6) ((4 : Int32)) (v6) σ else f_X8_layDown_b97 (fun v1 v3 v4 v5 v6 σ => f_X8_layDown_b86 n_ v1 v3 v4 v5 v6 σ) (v1) (v3) (v4) (v5) (v6) ((2 : Int32)) (v6) σ) = some (r, σ') := hf
    have hK86 := ih
    refine lv_iload C.1 C.2.1 (kd kX8_layDown_0 47 rfl) (lv_at hl 5 rfl) ?_
    refine lv_iload_n C.1 C.2.1 (kd kX8_layDown_0 48 rfl) rfl (lv_at hl 2 rfl) ?_
    refine lv_if_ne (tgt := 96) C.1 C.2.1 (kd kX8_layDown_0 49 rfl) (by decide) (fun q => ?_) (fun q => ?_)
    · have hf := fif_neg q hf
      refine lv_iconst (v := (2 : Int32)) C.1 C.2.1 (kd kX8_layDown_0 52 rfl) (by decide) ?_
      exact w_X8_layDown_b97 C hK86 (v1) (v3) (v4) (v5) (v6) ((2 : Int32)) (v6) σ H locs ls hf hP hS (lv_sub hl [0, 1, 2, 3, 4, 5] rfl)
    have hf := fif_pos q hf
    refine lv_iconst (v := (4 : Int32)) C.1 C.2.1 (kd kX8_layDown_0 50 rfl) (by decide) ?_
    refine lv_goto (tgt := 97) C.1 C.2.1 (kd kX8_layDown_0 51 rfl) (by decide) ?_
    exact w_X8_layDown_b97 C hK86 (v1) (v3) (v4) (v5) (v6) ((4 : Int32)) (v6) σ H locs ls hf hP hS (lv_sub hl [0, 1, 2, 3, 4, 5] rfl)
def f_X8_layDown_b68 (v1 : Int32) (v2 : Int32) (v3 : Int32) (v4 : Int32) (σ : fS) : Option (Int32 × fS) := fb (((3 : Int32) * v1) + v2) 9 (fL (fu σ 187 (((3 : Int32) * v1) + v2).toNatClampNeg v3) (fun σ1 => f_X8_layDown_b86 fN (v1) (v3) (v4) ((((3 : Int32) * v1) + v2)) ((0 : Int32)) σ1))
set_option maxRecDepth 100000 in
set_option maxHeartbeats 4000000 in
theorem w_X8_layDown_b68 {r : Int32} {σ' : fS}  (C : fC Γ p s m args meth c cX8_layDown (some .int) RX8 8) : ∀ (v1 : Int32) (v2 : Int32) (v3 : Int32) (v4 : Int32) (σ : fS) (H : Heap) (locs : List Loc) (ls : Array Slot), f_X8_layDown_b68 v1 v2 v3 v4 σ = some (r, σ') → fH Γ σ H → va_S (fAd Γ) s.heap H locs → lv_has ls 8 [(0, .ref (Γ.1 164)), (1, .int v1), (2, .int v2), (3, .int v3), (4, .int v4)] → W p l e ({ frames := 2, cells := 0, slots := 0, locals := 43 } : Room) s m args below meth c H locs 0 0 (MQ below (fQi Γ r σ') args s 0 0 (fAd Γ)) (F0 m 68 ls []) := by
  intro v1 v2 v3 v4 σ H locs ls hf hP hS hl
  unfold f_X8_layDown_b68 at hf
  refine lv_iconst (v := (3 : Int32)) C.1 C.2.1 (kd kX8_layDown_0 34 rfl) (by decide) ?_
  refine lv_iload_n C.1 C.2.1 (kd kX8_layDown_0 35 rfl) rfl (lv_at hl 1 rfl) ?_
  refine lv_imul C.1 C.2.1 (kd kX8_layDown_0 36 rfl) ?_
  refine lv_iload_n C.1 C.2.1 (kd kX8_layDown_0 37 rfl) rfl (lv_at hl 2 rfl) ?_
  refine lv_iadd C.1 C.2.1 (kd kX8_layDown_0 38 rfl) ?_
  refine lv_istore (lv' := [(5, .int (((3 : Int32) * v1) + v2)), (0, .ref (Γ.1 164)), (1, .int v1), (2, .int v2), (3, .int v3), (4, .int v4)]) C.1 C.2.1 (kd kX8_layDown_0 39 rfl) hl (Nat.le_of_ble_eq_true rfl) rfl (fun ls hl => ?_)
  refine lv_aload_n C.1 C.2.1 (kd kX8_layDown_0 40 rfl) rfl (lv_at hl 1 rfl) ?_
  refine fl_get (j := 29) (v := .ref (Γ.1 187)) C hP rfl (Nat.le_of_ble_eq_true rfl) rfl inX8 (Nat.le_of_ble_eq_true rfl) tw_891 rfl (kd kX8_layDown_0 41 rfl) ?_
  refine lv_iload C.1 C.2.1 (kd kX8_layDown_0 42 rfl) (lv_at hl 0 rfl) ?_
  refine lv_iload_n C.1 C.2.1 (kd kX8_layDown_0 43 rfl) rfl (lv_at hl 4 rfl) ?_
  obtain ⟨hq, hf⟩ := fb_some hf
  obtain ⟨σ1, eσ1, hf⟩ := fL_some hf
  refine fl_iast C hP hS rfl hq (kd kX8_layDown_0 44 rfl) (fun H locs hP hS => ?_)
  have hP : fH Γ σ1 H := by rw [eσ1]; exact hP
  refine lv_iconst (v := (0 : Int32)) C.1 C.2.1 (kd kX8_layDown_0 45 rfl) (by decide) ?_
  refine lv_istore (lv' := [(6, .int (0 : Int32)), (5, .int (((3 : Int32) * v1) + v2)), (0, .ref (Γ.1 164)), (1, .int v1), (2, .int v2), (3, .int v3), (4, .int v4)]) C.1 C.2.1 (kd kX8_layDown_0 46 rfl) hl (Nat.le_of_ble_eq_true rfl) rfl (fun ls hl => ?_)
  exact w_X8_layDown_b86 C fN (v1) (v3) (v4) ((((3 : Int32) * v1) + v2)) ((0 : Int32)) σ1 H locs ls hf hP hS (lv_sub hl [2, 3, 5, 6, 1, 0] rfl)
def f_X8_layDown_b54 (v1 : Int32) (v2 : Int32) (v3 : Int32) (v4 : Int32) (σ : fS) : Option (Int32 × fS) := (if v1 = (2 : Int32) then f_X8_layDown_b68 (v1) (v2) (v3) (v4) σ else (if v1 = v3 then f_X8_layDown_b68 (v1) (v2) (v3) (v4) σ else some ((-10006 : Int32), σ)))
set_option maxRecDepth 100000 in
set_option maxHeartbeats 4000000 in
theorem w_X8_layDown_b54 {r : Int32} {σ' : fS}  (C : fC Γ p s m args meth c cX8_layDown (some .int) RX8 8) : ∀ (v1 : Int32) (v2 : Int32) (v3 : Int32) (v4 : Int32) (σ : fS) (H : Heap) (locs : List Loc) (ls : Array Slot), f_X8_layDown_b54 v1 v2 v3 v4 σ = some (r, σ') → fH Γ σ H → va_S (fAd Γ) s.heap H locs → lv_has ls 8 [(0, .ref (Γ.1 164)), (1, .int v1), (2, .int v2), (3, .int v3), (4, .int v4)] → W p l e ({ frames := 2, cells := 0, slots := 0, locals := 43 } : Room) s m args below meth c H locs 0 0 (MQ below (fQi Γ r σ') args s 0 0 (fAd Γ)) (F0 m 54 ls []) := by
  intro v1 v2 v3 v4 σ H locs ls hf hP hS hl
  unfold f_X8_layDown_b54 at hf
  refine lv_iload_n C.1 C.2.1 (kd kX8_layDown_0 26 rfl) rfl (lv_at hl 1 rfl) ?_
  refine lv_iconst (v := (2 : Int32)) C.1 C.2.1 (kd kX8_layDown_0 27 rfl) (by decide) ?_
  refine lv_icmp_eq (tgt := 68) C.1 C.2.1 (kd kX8_layDown_0 28 rfl) (by decide) (fun q => ?_) (fun q => ?_)
  · have hf := fif_pos q hf
    exact w_X8_layDown_b68 C (v1) (v2) (v3) (v4) σ H locs ls hf hP hS (lv_sub hl [0, 1, 2, 3, 4] rfl)
  have hf := fif_neg q hf
  refine lv_iload_n C.1 C.2.1 (kd kX8_layDown_0 29 rfl) rfl (lv_at hl 1 rfl) ?_
  refine lv_iload_n C.1 C.2.1 (kd kX8_layDown_0 30 rfl) rfl (lv_at hl 3 rfl) ?_
  refine lv_icmp_eq (tgt := 68) C.1 C.2.1 (kd kX8_layDown_0 31 rfl) (by decide) (fun q => ?_) (fun q => ?_)
  · have hf := fif_pos q hf
    exact w_X8_layDown_b68 C (v1) (v2) (v3) (v4) σ H locs ls hf hP hS (lv_sub hl [0, 1, 2, 3, 4] rfl)
  have hf := fif_neg q hf
  refine lv_sipush (v := (-10006 : Int32)) C.1 C.2.1 (kd kX8_layDown_0 32 rfl) (by decide) ?_
  exact fl_iret C hP hS hf (kd kX8_layDown_0 33 rfl)
def f_X8_layDown (x1 : Int32) (x2 : Int32) (x3 : Int32) (x4 : Int32) (σ : fS) : Option (Int32 × fS) := fcall (f_X8_isPlace x1 x2 σ) (fun r1_ σ1 => (if r1_ = 0 then some ((-10001 : Int32), σ1) else fcall (f_X8_in x3 (0 : Int32) (1 : Int32) σ1) (fun r2_ σ2 => (if r2_ = 0 then some ((-10002 : Int32), σ2) else (if x3 = 0 then fcall (f_X8_isShip x4 σ2) (fun r4_ σ4 => (if r4_ = 0 then some ((-10001 : Int32), σ4) else f_X8_layDown_b54 (x1) (x2) (x3) (x4) σ4)) else fcall (f_X8_isBerth x4 σ2) (fun r3_ σ3 => (if r3_ = 0 then some ((-10001 : Int32), σ3) else f_X8_layDown_b54 (x1) (x2) (x3) (x4) σ3)))))))
set_option maxRecDepth 100000 in
set_option maxHeartbeats 4000000 in
theorem m_X8_layDown {Γ : fGm} (hI : fI Γ) (l : Launch) {x1 : Int32} {x2 : Int32} {x3 : Int32} {x4 : Int32} {σ : fS} {r : Int32} {σ' : fS} (hf : f_X8_layDown x1 x2 x3 x4 σ = some (r, σ')) : Met l yX8_layDown (.code yX8_layDown cX8_layDown 8 (some .int) :: lw_g) ({ frames := 2, cells := 0, slots := 0, locals := 43 } : Room) (fPre Γ [.ref (Γ.1 164), .int x1, .int x2, .int x3, .int x4] σ) (fQi Γ r σ') 0 0 (fAd Γ) := by
  refine fl_enter (own := RX8) hI (by decide +kernel) rfl (Nat.le_of_ble_eq_true rfl) ?_
  intro p e s m args below meth c ls C hl hP hS
  have hl : lv_has ls 8 [(0, .ref (Γ.1 164)), (1, .int x1), (2, .int x2), (3, .int x3), (4, .int x4)] := hl
  obtain ⟨H, hH⟩ : ∃ H, H = s.heap := ⟨_, rfl⟩
  obtain ⟨locs, hL⟩ : ∃ L : List Loc, L = [] := ⟨_, rfl⟩
  have hP : fH Γ σ H := by rw [hH]; exact hP
  have hS : va_S (fAd Γ) s.heap H locs := by rw [hH, hL]; exact hS
  suffices hw : W p l e ({ frames := 2, cells := 0, slots := 0, locals := 43 } : Room) s m args below meth c H locs 0 0 (MQ below (fQi Γ r σ') args s 0 0 (fAd Γ)) (F0 m 0 ls []) by rw [hH, hL] at hw; exact hw
  unfold f_X8_layDown at hf
  refine lv_iload_n C.1 C.2.1 (kd kX8_layDown_0 0 rfl) rfl (lv_at hl 1 rfl) ?_
  refine lv_iload_n C.1 C.2.1 (kd kX8_layDown_0 1 rfl) rfl (lv_at hl 2 rfl) ?_
  obtain ⟨r1_, σ1, hσ1, hf⟩ := fcall_some hf
  refine fl_i hS (fl_runS (As := [.int x1, .int x2]) (rest := []) C hP (m_X8_isPlace C.2.2.2.2.2.2.2.2 l  hσ1) (fgS tw_1301 tw_1302 tw_75 tw_1303) hs_X8_isPlace ⟨rfl, rfl, Nat.le_of_ble_eq_true rfl, Nat.le_of_ble_eq_true rfl⟩ rfl hl.1 rfl (Nat.le_of_ble_eq_true rfl) (kd kX8_layDown_0 2 rfl)) (fun H locs hP hS => ?_)
  refine lv_if_ne (tgt := 12) C.1 C.2.1 (kd kX8_layDown_0 3 rfl) (by decide) (fun q => ?_) (fun q => ?_)
  · have hf := fif_neg q hf
    refine lv_iload_n C.1 C.2.1 (kd kX8_layDown_0 6 rfl) rfl (lv_at hl 3 rfl) ?_
    refine lv_iconst (v := (0 : Int32)) C.1 C.2.1 (kd kX8_layDown_0 7 rfl) (by decide) ?_
    refine lv_iconst (v := (1 : Int32)) C.1 C.2.1 (kd kX8_layDown_0 8 rfl) (by decide) ?_
    obtain ⟨r2_, σ2, hσ2, hf⟩ := fcall_some hf
    refine fl_i hS (fl_runS (As := [.int x3, .int (0 : Int32), .int (1 : Int32)]) (rest := []) C hP (m_X8_in C.2.2.2.2.2.2.2.2 l  hσ2) (fgS tw_968 tw_969 tw_75 tw_970) hs_X8_in ⟨rfl, rfl, Nat.le_of_ble_eq_true rfl, Nat.le_of_ble_eq_true rfl⟩ rfl hl.1 rfl (Nat.le_of_ble_eq_true rfl) (kd kX8_layDown_0 9 rfl)) (fun H locs hP hS => ?_)
    refine lv_if_ne (tgt := 25) C.1 C.2.1 (kd kX8_layDown_0 10 rfl) (by decide) (fun q => ?_) (fun q => ?_)
    · have hf := fif_neg q hf
      refine lv_iload_n C.1 C.2.1 (kd kX8_layDown_0 13 rfl) rfl (lv_at hl 3 rfl) ?_
      refine lv_if_ne (tgt := 41) C.1 C.2.1 (kd kX8_layDown_0 14 rfl) (by decide) (fun q => ?_) (fun q => ?_)
      · have hf := fif_neg q hf
        refine lv_aload_n C.1 C.2.1 (kd kX8_layDown_0 20 rfl) rfl (lv_at hl 0 rfl) ?_
        refine lv_iload C.1 C.2.1 (kd kX8_layDown_0 21 rfl) (lv_at hl 4 rfl) ?_
        obtain ⟨r3_, σ3, hσ3, hf⟩ := fcall_some hf
        refine fl_i hS (fl_runV (As := [.int x4]) (rest := []) C hP rfl (Nat.le_of_ble_eq_true rfl) rfl (m_X8_isBerth C.2.2.2.2.2.2.2.2 l  hσ3) (fgV tw_998 tw_1000 tw_26 tw_75 tw_1001) hd_X8_isBerth ⟨rfl, rfl, Nat.le_of_ble_eq_true rfl, Nat.le_of_ble_eq_true rfl⟩ rfl hl.1 rfl (Nat.le_of_ble_eq_true rfl) (kd kX8_layDown_0 22 rfl)) (fun H locs hP hS => ?_)
        refine lv_if_ne (tgt := 54) C.1 C.2.1 (kd kX8_layDown_0 23 rfl) (by decide) (fun q => ?_) (fun q => ?_)
        · have hf := fif_neg q hf
          exact w_X8_layDown_b54 C (x1) (x2) (x3) (x4) σ3 H locs ls hf hP hS (lv_sub hl [0, 1, 2, 3, 4] rfl)
        have hf := fif_pos q hf
        refine lv_sipush (v := (-10001 : Int32)) C.1 C.2.1 (kd kX8_layDown_0 24 rfl) (by decide) ?_
        exact fl_iret C hP hS hf (kd kX8_layDown_0 25 rfl)
      have hf := fif_pos q hf
      refine lv_aload_n C.1 C.2.1 (kd kX8_layDown_0 15 rfl) rfl (lv_at hl 0 rfl) ?_
      refine lv_iload C.1 C.2.1 (kd kX8_layDown_0 16 rfl) (lv_at hl 4 rfl) ?_
      obtain ⟨r4_, σ4, hσ4, hf⟩ := fcall_some hf
      refine fl_i hS (fl_runV (As := [.int x4]) (rest := []) C hP rfl (Nat.le_of_ble_eq_true rfl) rfl (m_X8_isShip C.2.2.2.2.2.2.2.2 l  hσ4) (fgV tw_994 tw_996 tw_25 tw_75 tw_997) hd_X8_isShip ⟨rfl, rfl, Nat.le_of_ble_eq_true rfl, Nat.le_of_ble_eq_true rfl⟩ rfl hl.1 rfl (Nat.le_of_ble_eq_true rfl) (kd kX8_layDown_0 17 rfl)) (fun H locs hP hS => ?_)
      refine lv_if_eq (tgt := 50) C.1 C.2.1 (kd kX8_layDown_0 18 rfl) (by decide) (fun q => ?_) (fun q => ?_)
      · have hf := fif_pos q hf
        refine lv_sipush (v := (-10001 : Int32)) C.1 C.2.1 (kd kX8_layDown_0 24 rfl) (by decide) ?_
        exact fl_iret C hP hS hf (kd kX8_layDown_0 25 rfl)
      have hf := fif_neg q hf
      refine lv_goto (tgt := 54) C.1 C.2.1 (kd kX8_layDown_0 19 rfl) (by decide) ?_
      exact w_X8_layDown_b54 C (x1) (x2) (x3) (x4) σ4 H locs ls hf hP hS (lv_sub hl [0, 1, 2, 3, 4] rfl)
    have hf := fif_pos q hf
    refine lv_sipush (v := (-10002 : Int32)) C.1 C.2.1 (kd kX8_layDown_0 11 rfl) (by decide) ?_
    exact fl_iret C hP hS hf (kd kX8_layDown_0 12 rfl)
  have hf := fif_pos q hf
  refine lv_sipush (v := (-10001 : Int32)) C.1 C.2.1 (kd kX8_layDown_0 4 rfl) (by decide) ?_
  exact fl_iret C hP hS hf (kd kX8_layDown_0 5 rfl)
def f_X8_takeOut_b113 (s0 : Int32) (σ : fS) : Option (Int32 × fS) := fcall (f_X8_kept s0 σ) (fun r1_ σ1 => some (r1_, σ1))
set_option maxRecDepth 100000 in
set_option maxHeartbeats 4000000 in
theorem w_X8_takeOut_b113 {r : Int32} {σ' : fS}  (C : fC Γ p s m args meth c cX8_takeOut (some .int) RX8 4) : ∀ (s0 : Int32) (σ : fS) (H : Heap) (locs : List Loc) (ls : Array Slot), f_X8_takeOut_b113 s0 σ = some (r, σ') → fH Γ σ H → va_S (fAd Γ) s.heap H locs → lv_has ls 4 [] → W p l e ({ frames := 3, cells := 0, slots := 0, locals := 64 } : Room) s m args below meth c H locs 0 0 (MQ below (fQi Γ r σ') args s 0 0 (fAd Γ)) (F0 m 113 ls [.int s0, .ref (Γ.1 164)]) := by
  intro s0 σ H locs ls hf hP hS hl
  unfold f_X8_takeOut_b113 at hf
  obtain ⟨r1_, σ1, hσ1, hf⟩ := fcall_some hf
  refine fl_i hS (fl_runV (As := [.int s0]) (rest := []) C hP rfl (Nat.le_of_ble_eq_true rfl) rfl (m_X8_kept C.2.2.2.2.2.2.2.2 l  hσ1) (fgV tw_971 tw_973 tw_22 tw_75 tw_974) hd_X8_kept ⟨rfl, rfl, Nat.le_of_ble_eq_true rfl, Nat.le_of_ble_eq_true rfl⟩ rfl hl.1 rfl (Nat.le_of_ble_eq_true rfl) (kd kX8_takeOut_1 17 rfl)) (fun H locs hP hS => ?_)
  exact fl_iret C hP hS hf (kd kX8_takeOut_1 18 rfl)
def f_X8_takeOut (x1 : Int32) (x2 : Int32) (σ : fS) : Option (Int32 × fS) := fcall (f_X8_isPlace x1 x2 σ) (fun r1_ σ1 => (if r1_ = 0 then some ((-10001 : Int32), σ1) else fb (((3 : Int32) * x1) + x2) 9 ((if (σ1 187 (((3 : Int32) * x1) + x2).toNatClampNeg) = (-1 : Int32) then some ((-10004 : Int32), σ1) else fcallv (f_X8_remembers σ1) (fun σ2 => fb (((3 : Int32) * x1) + x2) 9 ((if (σ2 187 (((3 : Int32) * x1) + x2).toNatClampNeg) = 0 then fb ((4 : Int32) * (((3 : Int32) * x1) + x2)) 36 (fb (((4 : Int32) * (((3 : Int32) * x1) + x2)) + (1 : Int32)) 36 (fb (((4 : Int32) * (((3 : Int32) * x1) + x2)) + (2 : Int32)) 36 (fb (((4 : Int32) * (((3 : Int32) * x1) + x2)) + (3 : Int32)) 36 (fcall (f_X8_addsShip (σ2 188 ((4 : Int32) * (((3 : Int32) * x1) + x2)).toNatClampNeg) (σ2 188 (((4 : Int32) * (((3 : Int32) * x1) + x2)) + (1 : Int32)).toNatClampNeg) (σ2 188 (((4 : Int32) * (((3 : Int32) * x1) + x2)) + (2 : Int32)).toNatClampNeg) (σ2 188 (((4 : Int32) * (((3 : Int32) * x1) + x2)) + (3 : Int32)).toNatClampNeg) σ2) (fun r4_ σ4 => f_X8_takeOut_b113 (r4_) σ4))))) else fb ((4 : Int32) * (((3 : Int32) * x1) + x2)) 36 (fb (((4 : Int32) * (((3 : Int32) * x1) + x2)) + (1 : Int32)) 36 (fcall (f_X8_addsBerth (σ2 188 ((4 : Int32) * (((3 : Int32) * x1) + x2)).toNatClampNeg) (σ2 188 (((4 : Int32) * (((3 : Int32) * x1) + x2)) + (1 : Int32)).toNatClampNeg) σ2) (fun r3_ σ3 => f_X8_takeOut_b113 (r3_) σ3))))))))))
set_option maxRecDepth 100000 in
set_option maxHeartbeats 4000000 in
theorem m_X8_takeOut {Γ : fGm} (hI : fI Γ) (l : Launch) {x1 : Int32} {x2 : Int32} {σ : fS} {r : Int32} {σ' : fS} (hf : f_X8_takeOut x1 x2 σ = some (r, σ')) : Met l yX8_takeOut (.code yX8_takeOut cX8_takeOut 4 (some .int) :: lw_g) ({ frames := 3, cells := 0, slots := 0, locals := 64 } : Room) (fPre Γ [.ref (Γ.1 164), .int x1, .int x2] σ) (fQi Γ r σ') 0 0 (fAd Γ) := by
  refine fl_enter (own := RX8) hI (by decide +kernel) rfl (Nat.le_of_ble_eq_true rfl) ?_
  intro p e s m args below meth c ls C hl hP hS
  have hl : lv_has ls 4 [(0, .ref (Γ.1 164)), (1, .int x1), (2, .int x2)] := hl
  obtain ⟨H, hH⟩ : ∃ H, H = s.heap := ⟨_, rfl⟩
  obtain ⟨locs, hL⟩ : ∃ L : List Loc, L = [] := ⟨_, rfl⟩
  have hP : fH Γ σ H := by rw [hH]; exact hP
  have hS : va_S (fAd Γ) s.heap H locs := by rw [hH, hL]; exact hS
  suffices hw : W p l e ({ frames := 3, cells := 0, slots := 0, locals := 64 } : Room) s m args below meth c H locs 0 0 (MQ below (fQi Γ r σ') args s 0 0 (fAd Γ)) (F0 m 0 ls []) by rw [hH, hL] at hw; exact hw
  unfold f_X8_takeOut at hf
  refine lv_iload_n C.1 C.2.1 (kd kX8_takeOut_0 0 rfl) rfl (lv_at hl 1 rfl) ?_
  refine lv_iload_n C.1 C.2.1 (kd kX8_takeOut_0 1 rfl) rfl (lv_at hl 2 rfl) ?_
  obtain ⟨r1_, σ1, hσ1, hf⟩ := fcall_some hf
  refine fl_i hS (fl_runS (As := [.int x1, .int x2]) (rest := []) C hP (m_X8_isPlace C.2.2.2.2.2.2.2.2 l  hσ1) (fgS tw_1301 tw_1302 tw_75 tw_1303) hs_X8_isPlace ⟨rfl, rfl, Nat.le_of_ble_eq_true rfl, Nat.le_of_ble_eq_true rfl⟩ rfl hl.1 rfl (Nat.le_of_ble_eq_true rfl) (kd kX8_takeOut_0 2 rfl)) (fun H locs hP hS => ?_)
  refine lv_if_ne (tgt := 12) C.1 C.2.1 (kd kX8_takeOut_0 3 rfl) (by decide) (fun q => ?_) (fun q => ?_)
  · have hf := fif_neg q hf
    refine lv_iconst (v := (3 : Int32)) C.1 C.2.1 (kd kX8_takeOut_0 6 rfl) (by decide) ?_
    refine lv_iload_n C.1 C.2.1 (kd kX8_takeOut_0 7 rfl) rfl (lv_at hl 1 rfl) ?_
    refine lv_imul C.1 C.2.1 (kd kX8_takeOut_0 8 rfl) ?_
    refine lv_iload_n C.1 C.2.1 (kd kX8_takeOut_0 9 rfl) rfl (lv_at hl 2 rfl) ?_
    refine lv_iadd C.1 C.2.1 (kd kX8_takeOut_0 10 rfl) ?_
    refine lv_istore_n (lv' := [(3, .int (((3 : Int32) * x1) + x2)), (0, .ref (Γ.1 164)), (1, .int x1), (2, .int x2)]) C.1 C.2.1 (kd kX8_takeOut_0 11 rfl) rfl hl (Nat.le_of_ble_eq_true rfl) rfl (fun ls hl => ?_)
    refine lv_aload_n C.1 C.2.1 (kd kX8_takeOut_0 12 rfl) rfl (lv_at hl 1 rfl) ?_
    refine fl_get (j := 29) (v := .ref (Γ.1 187)) C hP rfl (Nat.le_of_ble_eq_true rfl) rfl inX8 (Nat.le_of_ble_eq_true rfl) tw_891 rfl (kd kX8_takeOut_0 13 rfl) ?_
    refine lv_iload_n C.1 C.2.1 (kd kX8_takeOut_0 14 rfl) rfl (lv_at hl 0 rfl) ?_
    obtain ⟨hq, hf⟩ := fb_some hf
    refine fl_iald C hP rfl hq (kd kX8_takeOut_0 15 rfl) ?_
    refine lv_iconst (v := (-1 : Int32)) C.1 C.2.1 (kd kX8_takeOut_0 16 rfl) (by decide) ?_
    refine lv_icmp_ne (tgt := 32) C.1 C.2.1 (kd kX8_takeOut_0 17 rfl) (by decide) (fun q => ?_) (fun q => ?_)
    · have hf := fif_neg q hf
      refine lv_aload_n C.1 C.2.1 (kd kX8_takeOut_0 20 rfl) rfl (lv_at hl 1 rfl) ?_
      obtain ⟨σ2, hσ2, hf⟩ := fcallv_some hf
      refine fl_v hS (fl_runV (As := []) (rest := []) C hP rfl (Nat.le_of_ble_eq_true rfl) rfl (m_X8_remembers C.2.2.2.2.2.2.2.2 l  hσ2) (fgV tw_960 tw_962 tw_20 tw_75 tw_963) hd_X8_remembers ⟨rfl, rfl, Nat.le_of_ble_eq_true rfl, Nat.le_of_ble_eq_true rfl⟩ rfl hl.1 rfl (Nat.le_of_ble_eq_true rfl) (kd kX8_takeOut_0 21 rfl)) (fun H locs hP hS => ?_)
      refine lv_aload_n C.1 C.2.1 (kd kX8_takeOut_0 22 rfl) rfl (lv_at hl 1 rfl) ?_
      refine lv_aload_n C.1 C.2.1 (kd kX8_takeOut_0 23 rfl) rfl (lv_at hl 1 rfl) ?_
      refine fl_get (j := 29) (v := .ref (Γ.1 187)) C hP rfl (Nat.le_of_ble_eq_true rfl) rfl inX8 (Nat.le_of_ble_eq_true rfl) tw_891 rfl (kd kX8_takeOut_0 24 rfl) ?_
      refine lv_iload_n C.1 C.2.1 (kd kX8_takeOut_0 25 rfl) rfl (lv_at hl 0 rfl) ?_
      obtain ⟨hq, hf⟩ := fb_some hf
      refine fl_iald C hP rfl hq (kd kX8_takeOut_0 26 rfl) ?_
      refine lv_if_ne (tgt := 91) C.1 C.2.1 (kd kX8_takeOut_0 27 rfl) (by decide) (fun q => ?_) (fun q => ?_)
      · have hf := fif_neg q hf
        refine lv_aload_n C.1 C.2.1 (kd kX8_takeOut_1 1 rfl) rfl (lv_at hl 1 rfl) ?_
        refine lv_aload_n C.1 C.2.1 (kd kX8_takeOut_1 2 rfl) rfl (lv_at hl 1 rfl) ?_
        refine fl_get (j := 30) (v := .ref (Γ.1 188)) C hP rfl (Nat.le_of_ble_eq_true rfl) rfl inX8 (Nat.le_of_ble_eq_true rfl) tw_892 rfl (kd kX8_takeOut_1 3 rfl) ?_
        refine lv_iconst (v := (4 : Int32)) C.1 C.2.1 (kd kX8_takeOut_1 4 rfl) (by decide) ?_
        refine lv_iload_n C.1 C.2.1 (kd kX8_takeOut_1 5 rfl) rfl (lv_at hl 0 rfl) ?_
        refine lv_imul C.1 C.2.1 (kd kX8_takeOut_1 6 rfl) ?_
        obtain ⟨hq, hf⟩ := fb_some hf
        refine fl_iald C hP rfl hq (kd kX8_takeOut_1 7 rfl) ?_
        refine lv_aload_n C.1 C.2.1 (kd kX8_takeOut_1 8 rfl) rfl (lv_at hl 1 rfl) ?_
        refine fl_get (j := 30) (v := .ref (Γ.1 188)) C hP rfl (Nat.le_of_ble_eq_true rfl) rfl inX8 (Nat.le_of_ble_eq_true rfl) tw_892 rfl (kd kX8_takeOut_1 9 rfl) ?_
        refine lv_iconst (v := (4 : Int32)) C.1 C.2.1 (kd kX8_takeOut_1 10 rfl) (by decide) ?_
        refine lv_iload_n C.1 C.2.1 (kd kX8_takeOut_1 11 rfl) rfl (lv_at hl 0 rfl) ?_
        refine lv_imul C.1 C.2.1 (kd kX8_takeOut_1 12 rfl) ?_
        refine lv_iconst (v := (1 : Int32)) C.1 C.2.1 (kd kX8_takeOut_1 13 rfl) (by decide) ?_
        refine lv_iadd C.1 C.2.1 (kd kX8_takeOut_1 14 rfl) ?_
        obtain ⟨hq, hf⟩ := fb_some hf
        refine fl_iald C hP rfl hq (kd kX8_takeOut_1 15 rfl) ?_
        obtain ⟨r3_, σ3, hσ3, hf⟩ := fcall_some hf
        refine fl_i hS (fl_runV (As := [.int (σ2 188 ((4 : Int32) * (((3 : Int32) * x1) + x2)).toNatClampNeg), .int (σ2 188 (((4 : Int32) * (((3 : Int32) * x1) + x2)) + (1 : Int32)).toNatClampNeg)]) (rest := [.ref (Γ.1 164)]) C hP rfl (Nat.le_of_ble_eq_true rfl) rfl (m_X8_addsBerth C.2.2.2.2.2.2.2.2 l  hσ3) (fgV tw_982 tw_984 tw_23 tw_75 tw_985) hd_X8_addsBerth ⟨rfl, rfl, Nat.le_of_ble_eq_true rfl, Nat.le_of_ble_eq_true rfl⟩ rfl hl.1 rfl (Nat.le_of_ble_eq_true rfl) (kd kX8_takeOut_1 16 rfl)) (fun H locs hP hS => ?_)
        exact w_X8_takeOut_b113 C (r3_) σ3 H locs ls hf hP hS (lv_sub hl [] rfl)
      have hf := fif_pos q hf
      refine lv_aload_n C.1 C.2.1 (kd kX8_takeOut_0 28 rfl) rfl (lv_at hl 1 rfl) ?_
      refine lv_aload_n C.1 C.2.1 (kd kX8_takeOut_0 29 rfl) rfl (lv_at hl 1 rfl) ?_
      refine fl_get (j := 30) (v := .ref (Γ.1 188)) C hP rfl (Nat.le_of_ble_eq_true rfl) rfl inX8 (Nat.le_of_ble_eq_true rfl) tw_892 rfl (kd kX8_takeOut_0 30 rfl) ?_
      refine lv_iconst (v := (4 : Int32)) C.1 C.2.1 (kd kX8_takeOut_0 31 rfl) (by decide) ?_
      refine lv_iload_n C.1 C.2.1 (kd kX8_takeOut_0 32 rfl) rfl (lv_at hl 0 rfl) ?_
      refine lv_imul C.1 C.2.1 (kd kX8_takeOut_0 33 rfl) ?_
      obtain ⟨hq, hf⟩ := fb_some hf
      refine fl_iald C hP rfl hq (kd kX8_takeOut_0 34 rfl) ?_
      refine lv_aload_n C.1 C.2.1 (kd kX8_takeOut_0 35 rfl) rfl (lv_at hl 1 rfl) ?_
      refine fl_get (j := 30) (v := .ref (Γ.1 188)) C hP rfl (Nat.le_of_ble_eq_true rfl) rfl inX8 (Nat.le_of_ble_eq_true rfl) tw_892 rfl (kd kX8_takeOut_0 36 rfl) ?_
      refine lv_iconst (v := (4 : Int32)) C.1 C.2.1 (kd kX8_takeOut_0 37 rfl) (by decide) ?_
      refine lv_iload_n C.1 C.2.1 (kd kX8_takeOut_0 38 rfl) rfl (lv_at hl 0 rfl) ?_
      refine lv_imul C.1 C.2.1 (kd kX8_takeOut_0 39 rfl) ?_
      refine lv_iconst (v := (1 : Int32)) C.1 C.2.1 (kd kX8_takeOut_0 40 rfl) (by decide) ?_
      refine lv_iadd C.1 C.2.1 (kd kX8_takeOut_0 41 rfl) ?_
      obtain ⟨hq, hf⟩ := fb_some hf
      refine fl_iald C hP rfl hq (kd kX8_takeOut_0 42 rfl) ?_
      refine lv_aload_n C.1 C.2.1 (kd kX8_takeOut_0 43 rfl) rfl (lv_at hl 1 rfl) ?_
      refine fl_get (j := 30) (v := .ref (Γ.1 188)) C hP rfl (Nat.le_of_ble_eq_true rfl) rfl inX8 (Nat.le_of_ble_eq_true rfl) tw_892 rfl (kd kX8_takeOut_0 44 rfl) ?_
      refine lv_iconst (v := (4 : Int32)) C.1 C.2.1 (kd kX8_takeOut_0 45 rfl) (by decide) ?_
      refine lv_iload_n C.1 C.2.1 (kd kX8_takeOut_0 46 rfl) rfl (lv_at hl 0 rfl) ?_
      refine lv_imul C.1 C.2.1 (kd kX8_takeOut_0 47 rfl) ?_
      refine lv_iconst (v := (2 : Int32)) C.1 C.2.1 (kd kX8_takeOut_0 48 rfl) (by decide) ?_
      refine lv_iadd C.1 C.2.1 (kd kX8_takeOut_0 49 rfl) ?_
      obtain ⟨hq, hf⟩ := fb_some hf
      refine fl_iald C hP rfl hq (kd kX8_takeOut_0 50 rfl) ?_
      refine lv_aload_n C.1 C.2.1 (kd kX8_takeOut_0 51 rfl) rfl (lv_at hl 1 rfl) ?_
      refine fl_get (j := 30) (v := .ref (Γ.1 188)) C hP rfl (Nat.le_of_ble_eq_true rfl) rfl inX8 (Nat.le_of_ble_eq_true rfl) tw_892 rfl (kd kX8_takeOut_0 52 rfl) ?_
      refine lv_iconst (v := (4 : Int32)) C.1 C.2.1 (kd kX8_takeOut_0 53 rfl) (by decide) ?_
      refine lv_iload_n C.1 C.2.1 (kd kX8_takeOut_0 54 rfl) rfl (lv_at hl 0 rfl) ?_
      refine lv_imul C.1 C.2.1 (kd kX8_takeOut_0 55 rfl) ?_
      refine lv_iconst (v := (3 : Int32)) C.1 C.2.1 (kd kX8_takeOut_0 56 rfl) (by decide) ?_
      refine lv_iadd C.1 C.2.1 (kd kX8_takeOut_0 57 rfl) ?_
      obtain ⟨hq, hf⟩ := fb_some hf
      refine fl_iald C hP rfl hq (kd kX8_takeOut_0 58 rfl) ?_
      obtain ⟨r4_, σ4, hσ4, hf⟩ := fcall_some hf
      refine fl_i hS (fl_runV (As := [.int (σ2 188 ((4 : Int32) * (((3 : Int32) * x1) + x2)).toNatClampNeg), .int (σ2 188 (((4 : Int32) * (((3 : Int32) * x1) + x2)) + (1 : Int32)).toNatClampNeg), .int (σ2 188 (((4 : Int32) * (((3 : Int32) * x1) + x2)) + (2 : Int32)).toNatClampNeg), .int (σ2 188 (((4 : Int32) * (((3 : Int32) * x1) + x2)) + (3 : Int32)).toNatClampNeg)]) (rest := [.ref (Γ.1 164)]) C hP rfl (Nat.le_of_ble_eq_true rfl) rfl (m_X8_addsShip C.2.2.2.2.2.2.2.2 l  hσ4) (fgV tw_964 tw_966 tw_21 tw_75 tw_967) hd_X8_addsShip ⟨rfl, rfl, Nat.le_of_ble_eq_true rfl, Nat.le_of_ble_eq_true rfl⟩ rfl hl.1 rfl (Nat.le_of_ble_eq_true rfl) (kd kX8_takeOut_0 59 rfl)) (fun H locs hP hS => ?_)
      refine lv_goto (tgt := 113) C.1 C.2.1 (kd kX8_takeOut_1 0 rfl) (by decide) ?_
      exact w_X8_takeOut_b113 C (r4_) σ4 H locs ls hf hP hS (lv_sub hl [] rfl)
    have hf := fif_pos q hf
    refine lv_sipush (v := (-10004 : Int32)) C.1 C.2.1 (kd kX8_takeOut_0 18 rfl) (by decide) ?_
    exact fl_iret C hP hS hf (kd kX8_takeOut_0 19 rfl)
  have hf := fif_pos q hf
  refine lv_sipush (v := (-10001 : Int32)) C.1 C.2.1 (kd kX8_takeOut_0 4 rfl) (by decide) ?_
  exact fl_iret C hP hS hf (kd kX8_takeOut_0 5 rfl)
def f_X8_lying (x1 : Int32) (x2 : Int32) (σ : fS) : Option (Int32 × fS) := fcall (f_X8_isPlace x1 x2 σ) (fun r1_ σ1 => (if r1_ = 0 then some ((-10001 : Int32), σ1) else fb (((3 : Int32) * x1) + x2) 9 ((if (σ1 187 (((3 : Int32) * x1) + x2).toNatClampNeg) = (-1 : Int32) then some ((-10004 : Int32), σ1) else some ((σ1 187 (((3 : Int32) * x1) + x2).toNatClampNeg), σ1)))))
set_option maxRecDepth 100000 in
set_option maxHeartbeats 4000000 in
theorem m_X8_lying {Γ : fGm} (hI : fI Γ) (l : Launch) {x1 : Int32} {x2 : Int32} {σ : fS} {r : Int32} {σ' : fS} (hf : f_X8_lying x1 x2 σ = some (r, σ')) : Met l yX8_lying (.code yX8_lying cX8_lying 4 (some .int) :: lw_g) ({ frames := 2, cells := 0, slots := 0, locals := 43 } : Room) (fPre Γ [.ref (Γ.1 164), .int x1, .int x2] σ) (fQi Γ r σ') 0 0 (fAd Γ) := by
  refine fl_enter (own := RX8) hI (by decide +kernel) rfl (Nat.le_of_ble_eq_true rfl) ?_
  intro p e s m args below meth c ls C hl hP hS
  have hl : lv_has ls 4 [(0, .ref (Γ.1 164)), (1, .int x1), (2, .int x2)] := hl
  obtain ⟨H, hH⟩ : ∃ H, H = s.heap := ⟨_, rfl⟩
  obtain ⟨locs, hL⟩ : ∃ L : List Loc, L = [] := ⟨_, rfl⟩
  have hP : fH Γ σ H := by rw [hH]; exact hP
  have hS : va_S (fAd Γ) s.heap H locs := by rw [hH, hL]; exact hS
  suffices hw : W p l e ({ frames := 2, cells := 0, slots := 0, locals := 43 } : Room) s m args below meth c H locs 0 0 (MQ below (fQi Γ r σ') args s 0 0 (fAd Γ)) (F0 m 0 ls []) by rw [hH, hL] at hw; exact hw
  unfold f_X8_lying at hf
  refine lv_iload_n C.1 C.2.1 (kd kX8_lying_0 0 rfl) rfl (lv_at hl 1 rfl) ?_
  refine lv_iload_n C.1 C.2.1 (kd kX8_lying_0 1 rfl) rfl (lv_at hl 2 rfl) ?_
  obtain ⟨r1_, σ1, hσ1, hf⟩ := fcall_some hf
  refine fl_i hS (fl_runS (As := [.int x1, .int x2]) (rest := []) C hP (m_X8_isPlace C.2.2.2.2.2.2.2.2 l  hσ1) (fgS tw_1301 tw_1302 tw_75 tw_1303) hs_X8_isPlace ⟨rfl, rfl, Nat.le_of_ble_eq_true rfl, Nat.le_of_ble_eq_true rfl⟩ rfl hl.1 rfl (Nat.le_of_ble_eq_true rfl) (kd kX8_lying_0 2 rfl)) (fun H locs hP hS => ?_)
  refine lv_if_ne (tgt := 12) C.1 C.2.1 (kd kX8_lying_0 3 rfl) (by decide) (fun q => ?_) (fun q => ?_)
  · have hf := fif_neg q hf
    refine lv_aload_n C.1 C.2.1 (kd kX8_lying_0 6 rfl) rfl (lv_at hl 0 rfl) ?_
    refine fl_get (j := 29) (v := .ref (Γ.1 187)) C hP rfl (Nat.le_of_ble_eq_true rfl) rfl inX8 (Nat.le_of_ble_eq_true rfl) tw_891 rfl (kd kX8_lying_0 7 rfl) ?_
    refine lv_iconst (v := (3 : Int32)) C.1 C.2.1 (kd kX8_lying_0 8 rfl) (by decide) ?_
    refine lv_iload_n C.1 C.2.1 (kd kX8_lying_0 9 rfl) rfl (lv_at hl 1 rfl) ?_
    refine lv_imul C.1 C.2.1 (kd kX8_lying_0 10 rfl) ?_
    refine lv_iload_n C.1 C.2.1 (kd kX8_lying_0 11 rfl) rfl (lv_at hl 2 rfl) ?_
    refine lv_iadd C.1 C.2.1 (kd kX8_lying_0 12 rfl) ?_
    obtain ⟨hq, hf⟩ := fb_some hf
    refine fl_iald C hP rfl hq (kd kX8_lying_0 13 rfl) ?_
    refine lv_istore_n (lv' := [(3, .int (σ1 187 (((3 : Int32) * x1) + x2).toNatClampNeg)), (0, .ref (Γ.1 164)), (1, .int x1), (2, .int x2)]) C.1 C.2.1 (kd kX8_lying_0 14 rfl) rfl hl (Nat.le_of_ble_eq_true rfl) rfl (fun ls hl => ?_)
    refine lv_iload_n C.1 C.2.1 (kd kX8_lying_0 15 rfl) rfl (lv_at hl 0 rfl) ?_
    refine lv_iconst (v := (-1 : Int32)) C.1 C.2.1 (kd kX8_lying_0 16 rfl) (by decide) ?_
    refine lv_icmp_ne (tgt := 34) C.1 C.2.1 (kd kX8_lying_0 17 rfl) (by decide) (fun q => ?_) (fun q => ?_)
    · have hf := fif_neg q hf
      refine lv_iload_n C.1 C.2.1 (kd kX8_lying_0 20 rfl) rfl (lv_at hl 0 rfl) ?_
      exact fl_iret C hP hS hf (kd kX8_lying_0 21 rfl)
    have hf := fif_pos q hf
    refine lv_sipush (v := (-10004 : Int32)) C.1 C.2.1 (kd kX8_lying_0 18 rfl) (by decide) ?_
    refine lv_goto (tgt := 35) C.1 C.2.1 (kd kX8_lying_0 19 rfl) (by decide) ?_
    exact fl_iret C hP hS hf (kd kX8_lying_0 21 rfl)
  have hf := fif_pos q hf
  refine lv_sipush (v := (-10001 : Int32)) C.1 C.2.1 (kd kX8_lying_0 4 rfl) (by decide) ?_
  exact fl_iret C hP hS hf (kd kX8_lying_0 5 rfl)
def f_X8_save_b7 : Nat → Int32 → fS → Option (Int32 × fS)
  | 0, _, _ => none
  | n_ + 1, v1, σ => (if (277 : Int32) ≤ v1 then fb (122 : Int32) 277 (some ((σ 165 (122 : Int32).toNatClampNeg), σ)) else fb v1 277 (fb v1 277 (fL (fu σ 168 v1.toNatClampNeg (σ 165 v1.toNatClampNeg)) (fun σ1 => (fun v1 σ => f_X8_save_b7 n_ v1 σ) ((v1 + (1 : Int32))) σ1))))
set_option maxRecDepth 100000 in
set_option maxHeartbeats 4000000 in
theorem w_X8_save_b7 {r : Int32} {σ' : fS}  (C : fC Γ p s m args meth c cX8_save (some .int) RX8 2) : ∀ (n_ : Nat) (v1 : Int32) (σ : fS) (H : Heap) (locs : List Loc) (ls : Array Slot), f_X8_save_b7 n_ v1 σ = some (r, σ') → fH Γ σ H → va_S (fAd Γ) s.heap H locs → lv_has ls 2 [(0, .ref (Γ.1 164)), (1, .int v1)] → W p l e ({ frames := 0, cells := 0, slots := 0, locals := 0 } : Room) s m args below meth c H locs 0 0 (MQ below (fQi Γ r σ') args s 0 0 (fAd Γ)) (F0 m 7 ls []) := by
  intro n_
  induction n_ with
  | zero =>
    intro v1 σ H locs ls hf
    cases hf
  | succ n_ ih =>
    intro v1 σ H locs ls hf hP hS hl
    have hf : (if (277 : Int32) ≤ v1 then fb (122 : Int32) 277 (some ((σ 165 (122 : Int32).toNatClampNeg), σ)) else fb v1 277 (fb v1 277 (fL (fu σ 168 v1.toNatClampNeg (σ 165 v1.toNatClampNeg)) (fun σ1 => (fun v1 σ => f_X8_save_b7 n_ v1 σ) ((v1 + (1 : Int32))) σ1)))) = some (r, σ') := hf
    have hK7 := ih
    refine lv_iload_n C.1 C.2.1 (kd kX8_save_0 5 rfl) rfl (lv_at hl 1 rfl) ?_
    refine lv_sipush (v := (277 : Int32)) C.1 C.2.1 (kd kX8_save_0 6 rfl) (by decide) ?_
    refine lv_icmp_ge (tgt := 32) C.1 C.2.1 (kd kX8_save_0 7 rfl) (by decide) (fun q => ?_) (fun q => ?_)
    · have hf := fif_pos q hf
      refine lv_aload_n C.1 C.2.1 (kd kX8_save_0 18 rfl) rfl (lv_at hl 0 rfl) ?_
      refine fl_get (j := 0) (v := .ref (Γ.1 165)) C hP rfl (Nat.le_of_ble_eq_true rfl) rfl inX8 (Nat.le_of_ble_eq_true rfl) tw_862 rfl (kd kX8_save_0 19 rfl) ?_
      refine lv_bipush (v := (122 : Int32)) C.1 C.2.1 (kd kX8_save_0 20 rfl) (by decide) ?_
      obtain ⟨hq, hf⟩ := fb_some hf
      refine fl_iald C hP rfl hq (kd kX8_save_0 21 rfl) ?_
      exact fl_iret C hP hS hf (kd kX8_save_0 22 rfl)
    have hf := fif_neg q hf
    refine lv_aload_n C.1 C.2.1 (kd kX8_save_0 8 rfl) rfl (lv_at hl 0 rfl) ?_
    refine fl_get (j := 4) (v := .ref (Γ.1 168)) C hP rfl (Nat.le_of_ble_eq_true rfl) rfl inX8 (Nat.le_of_ble_eq_true rfl) tw_866 rfl (kd kX8_save_0 9 rfl) ?_
    refine lv_iload_n C.1 C.2.1 (kd kX8_save_0 10 rfl) rfl (lv_at hl 1 rfl) ?_
    refine lv_aload_n C.1 C.2.1 (kd kX8_save_0 11 rfl) rfl (lv_at hl 0 rfl) ?_
    refine fl_get (j := 0) (v := .ref (Γ.1 165)) C hP rfl (Nat.le_of_ble_eq_true rfl) rfl inX8 (Nat.le_of_ble_eq_true rfl) tw_862 rfl (kd kX8_save_0 12 rfl) ?_
    refine lv_iload_n C.1 C.2.1 (kd kX8_save_0 13 rfl) rfl (lv_at hl 1 rfl) ?_
    obtain ⟨hq, hf⟩ := fb_some hf
    refine fl_iald C hP rfl hq (kd kX8_save_0 14 rfl) ?_
    obtain ⟨hq, hf⟩ := fb_some hf
    obtain ⟨σ1, eσ1, hf⟩ := fL_some hf
    refine fl_iast C hP hS rfl hq (kd kX8_save_0 15 rfl) (fun H locs hP hS => ?_)
    have hP : fH Γ σ1 H := by rw [eσ1]; exact hP
    refine lv_iinc (v := (v1 + (1 : Int32))) (lv' := [(1, .int (v1 + (1 : Int32))), (0, .ref (Γ.1 164))]) C.1 C.2.1 (kd kX8_save_0 16 rfl) hl (k := 1) rfl rfl (Nat.le_of_ble_eq_true rfl) rfl (fun ls hl => ?_)
    refine lv_goto (tgt := 7) C.1 C.2.1 (kd kX8_save_0 17 rfl) (by decide) ?_
    exact hK7 ((v1 + (1 : Int32))) σ1 H locs ls hf hP hS (lv_sub hl [1, 0] rfl)
def f_X8_save (σ : fS) : Option (Int32 × fS) := fL (fu σ 164 5 (1 : Int32)) (fun σ1 => f_X8_save_b7 fN ((0 : Int32)) σ1)
set_option maxRecDepth 100000 in
set_option maxHeartbeats 4000000 in
theorem m_X8_save {Γ : fGm} (hI : fI Γ) (l : Launch) {σ : fS} {r : Int32} {σ' : fS} (hf : f_X8_save  σ = some (r, σ')) : Met l yX8_save (.code yX8_save cX8_save 2 (some .int) :: lw_g) ({ frames := 0, cells := 0, slots := 0, locals := 0 } : Room) (fPre Γ [.ref (Γ.1 164)] σ) (fQi Γ r σ') 0 0 (fAd Γ) := by
  refine fl_enter (own := RX8) hI (by decide +kernel) rfl (Nat.le_of_ble_eq_true rfl) ?_
  intro p e s m args below meth c ls C hl hP hS
  have hl : lv_has ls 2 [(0, .ref (Γ.1 164))] := hl
  obtain ⟨H, hH⟩ : ∃ H, H = s.heap := ⟨_, rfl⟩
  obtain ⟨locs, hL⟩ : ∃ L : List Loc, L = [] := ⟨_, rfl⟩
  have hP : fH Γ σ H := by rw [hH]; exact hP
  have hS : va_S (fAd Γ) s.heap H locs := by rw [hH, hL]; exact hS
  suffices hw : W p l e ({ frames := 0, cells := 0, slots := 0, locals := 0 } : Room) s m args below meth c H locs 0 0 (MQ below (fQi Γ r σ') args s 0 0 (fAd Γ)) (F0 m 0 ls []) by rw [hH, hL] at hw; exact hw
  unfold f_X8_save at hf
  refine lv_aload_n C.1 C.2.1 (kd kX8_save_0 0 rfl) rfl (lv_at hl 0 rfl) ?_
  refine lv_iconst (v := (1 : Int32)) C.1 C.2.1 (kd kX8_save_0 1 rfl) (by decide) ?_
  obtain ⟨σ1, eσ1, hf⟩ := fL_some hf
  refine fl_put (j := 5) C hP hS rfl rfl (Nat.le_of_ble_eq_true rfl) rfl inX8 tyX8 tyX8_ok nmX8 (Nat.le_of_ble_eq_true rfl) tw_867 rfl rfl rfl (Nat.le_of_ble_eq_true rfl) (kd kX8_save_0 2 rfl) (fun H locs hP hS => ?_)
  have hP : fH Γ σ1 H := by rw [eσ1]; exact hP
  refine lv_iconst (v := (0 : Int32)) C.1 C.2.1 (kd kX8_save_0 3 rfl) (by decide) ?_
  refine lv_istore_n (lv' := [(1, .int (0 : Int32)), (0, .ref (Γ.1 164))]) C.1 C.2.1 (kd kX8_save_0 4 rfl) rfl hl (Nat.le_of_ble_eq_true rfl) rfl (fun ls hl => ?_)
  exact w_X8_save_b7 C fN ((0 : Int32)) σ1 H locs ls hf hP hS (lv_sub hl [1, 0] rfl)
def f_X8_restore_b13 : Nat → Int32 → fS → Option (Int32 × fS)
  | 0, _, _ => none
  | n_ + 1, v1, σ => (if (277 : Int32) ≤ v1 then fL (fu σ 164 3 (0 : Int32)) (fun σ1 => fb (122 : Int32) 277 (some ((σ1 165 (122 : Int32).toNatClampNeg), σ1))) else fb v1 277 (fb v1 277 (fL (fu σ 165 v1.toNatClampNeg (σ 168 v1.toNatClampNeg)) (fun σ2 => (fun v1 σ => f_X8_restore_b13 n_ v1 σ) ((v1 + (1 : Int32))) σ2))))
set_option maxRecDepth 100000 in
set_option maxHeartbeats 4000000 in
theorem w_X8_restore_b13 {r : Int32} {σ' : fS}  (C : fC Γ p s m args meth c cX8_restore (some .int) RX8 2) : ∀ (n_ : Nat) (v1 : Int32) (σ : fS) (H : Heap) (locs : List Loc) (ls : Array Slot), f_X8_restore_b13 n_ v1 σ = some (r, σ') → fH Γ σ H → va_S (fAd Γ) s.heap H locs → lv_has ls 2 [(0, .ref (Γ.1 164)), (1, .int v1)] → W p l e ({ frames := 0, cells := 0, slots := 0, locals := 0 } : Room) s m args below meth c H locs 0 0 (MQ below (fQi Γ r σ') args s 0 0 (fAd Γ)) (F0 m 13 ls []) := by
  intro n_
  induction n_ with
  | zero =>
    intro v1 σ H locs ls hf
    cases hf
  | succ n_ ih =>
    intro v1 σ H locs ls hf hP hS hl
    have hf : (if (277 : Int32) ≤ v1 then fL (fu σ 164 3 (0 : Int32)) (fun σ1 => fb (122 : Int32) 277 (some ((σ1 165 (122 : Int32).toNatClampNeg), σ1))) else fb v1 277 (fb v1 277 (fL (fu σ 165 v1.toNatClampNeg (σ 168 v1.toNatClampNeg)) (fun σ2 => (fun v1 σ => f_X8_restore_b13 n_ v1 σ) ((v1 + (1 : Int32))) σ2)))) = some (r, σ') := hf
    have hK13 := ih
    refine lv_iload_n C.1 C.2.1 (kd kX8_restore_0 7 rfl) rfl (lv_at hl 1 rfl) ?_
    refine lv_sipush (v := (277 : Int32)) C.1 C.2.1 (kd kX8_restore_0 8 rfl) (by decide) ?_
    refine lv_icmp_ge (tgt := 38) C.1 C.2.1 (kd kX8_restore_0 9 rfl) (by decide) (fun q => ?_) (fun q => ?_)
    · have hf := fif_pos q hf
      refine lv_aload_n C.1 C.2.1 (kd kX8_restore_0 20 rfl) rfl (lv_at hl 0 rfl) ?_
      refine lv_iconst (v := (0 : Int32)) C.1 C.2.1 (kd kX8_restore_0 21 rfl) (by decide) ?_
      obtain ⟨σ1, eσ1, hf⟩ := fL_some hf
      refine fl_put (j := 3) C hP hS rfl rfl (Nat.le_of_ble_eq_true rfl) rfl inX8 tyX8 tyX8_ok nmX8 (Nat.le_of_ble_eq_true rfl) tw_865 rfl rfl rfl (Nat.le_of_ble_eq_true rfl) (kd kX8_restore_0 22 rfl) (fun H locs hP hS => ?_)
      have hP : fH Γ σ1 H := by rw [eσ1]; exact hP
      refine lv_aload_n C.1 C.2.1 (kd kX8_restore_0 23 rfl) rfl (lv_at hl 0 rfl) ?_
      refine fl_get (j := 0) (v := .ref (Γ.1 165)) C hP rfl (Nat.le_of_ble_eq_true rfl) rfl inX8 (Nat.le_of_ble_eq_true rfl) tw_862 rfl (kd kX8_restore_0 24 rfl) ?_
      refine lv_bipush (v := (122 : Int32)) C.1 C.2.1 (kd kX8_restore_0 25 rfl) (by decide) ?_
      obtain ⟨hq, hf⟩ := fb_some hf
      refine fl_iald C hP rfl hq (kd kX8_restore_0 26 rfl) ?_
      exact fl_iret C hP hS hf (kd kX8_restore_0 27 rfl)
    have hf := fif_neg q hf
    refine lv_aload_n C.1 C.2.1 (kd kX8_restore_0 10 rfl) rfl (lv_at hl 0 rfl) ?_
    refine fl_get (j := 0) (v := .ref (Γ.1 165)) C hP rfl (Nat.le_of_ble_eq_true rfl) rfl inX8 (Nat.le_of_ble_eq_true rfl) tw_862 rfl (kd kX8_restore_0 11 rfl) ?_
    refine lv_iload_n C.1 C.2.1 (kd kX8_restore_0 12 rfl) rfl (lv_at hl 1 rfl) ?_
    refine lv_aload_n C.1 C.2.1 (kd kX8_restore_0 13 rfl) rfl (lv_at hl 0 rfl) ?_
    refine fl_get (j := 4) (v := .ref (Γ.1 168)) C hP rfl (Nat.le_of_ble_eq_true rfl) rfl inX8 (Nat.le_of_ble_eq_true rfl) tw_866 rfl (kd kX8_restore_0 14 rfl) ?_
    refine lv_iload_n C.1 C.2.1 (kd kX8_restore_0 15 rfl) rfl (lv_at hl 1 rfl) ?_
    obtain ⟨hq, hf⟩ := fb_some hf
    refine fl_iald C hP rfl hq (kd kX8_restore_0 16 rfl) ?_
    obtain ⟨hq, hf⟩ := fb_some hf
    obtain ⟨σ2, eσ2, hf⟩ := fL_some hf
    refine fl_iast C hP hS rfl hq (kd kX8_restore_0 17 rfl) (fun H locs hP hS => ?_)
    have hP : fH Γ σ2 H := by rw [eσ2]; exact hP
    refine lv_iinc (v := (v1 + (1 : Int32))) (lv' := [(1, .int (v1 + (1 : Int32))), (0, .ref (Γ.1 164))]) C.1 C.2.1 (kd kX8_restore_0 18 rfl) hl (k := 1) rfl rfl (Nat.le_of_ble_eq_true rfl) rfl (fun ls hl => ?_)
    refine lv_goto (tgt := 13) C.1 C.2.1 (kd kX8_restore_0 19 rfl) (by decide) ?_
    exact hK13 ((v1 + (1 : Int32))) σ2 H locs ls hf hP hS (lv_sub hl [1, 0] rfl)
def f_X8_restore (σ : fS) : Option (Int32 × fS) := (if (σ 164 5) = 0 then some ((-10005 : Int32), σ) else f_X8_restore_b13 fN ((0 : Int32)) σ)
set_option maxRecDepth 100000 in
set_option maxHeartbeats 4000000 in
theorem m_X8_restore {Γ : fGm} (hI : fI Γ) (l : Launch) {σ : fS} {r : Int32} {σ' : fS} (hf : f_X8_restore  σ = some (r, σ')) : Met l yX8_restore (.code yX8_restore cX8_restore 2 (some .int) :: lw_g) ({ frames := 0, cells := 0, slots := 0, locals := 0 } : Room) (fPre Γ [.ref (Γ.1 164)] σ) (fQi Γ r σ') 0 0 (fAd Γ) := by
  refine fl_enter (own := RX8) hI (by decide +kernel) rfl (Nat.le_of_ble_eq_true rfl) ?_
  intro p e s m args below meth c ls C hl hP hS
  have hl : lv_has ls 2 [(0, .ref (Γ.1 164))] := hl
  obtain ⟨H, hH⟩ : ∃ H, H = s.heap := ⟨_, rfl⟩
  obtain ⟨locs, hL⟩ : ∃ L : List Loc, L = [] := ⟨_, rfl⟩
  have hP : fH Γ σ H := by rw [hH]; exact hP
  have hS : va_S (fAd Γ) s.heap H locs := by rw [hH, hL]; exact hS
  suffices hw : W p l e ({ frames := 0, cells := 0, slots := 0, locals := 0 } : Room) s m args below meth c H locs 0 0 (MQ below (fQi Γ r σ') args s 0 0 (fAd Γ)) (F0 m 0 ls []) by rw [hH, hL] at hw; exact hw
  unfold f_X8_restore at hf
  refine lv_aload_n C.1 C.2.1 (kd kX8_restore_0 0 rfl) rfl (lv_at hl 0 rfl) ?_
  refine fl_get (j := 5) (v := .int (σ 164 5)) C hP rfl (Nat.le_of_ble_eq_true rfl) rfl inX8 (Nat.le_of_ble_eq_true rfl) tw_867 rfl (kd kX8_restore_0 1 rfl) ?_
  refine lv_if_ne (tgt := 11) C.1 C.2.1 (kd kX8_restore_0 2 rfl) (by decide) (fun q => ?_) (fun q => ?_)
  · have hf := fif_neg q hf
    refine lv_iconst (v := (0 : Int32)) C.1 C.2.1 (kd kX8_restore_0 5 rfl) (by decide) ?_
    refine lv_istore_n (lv' := [(1, .int (0 : Int32)), (0, .ref (Γ.1 164))]) C.1 C.2.1 (kd kX8_restore_0 6 rfl) rfl hl (Nat.le_of_ble_eq_true rfl) rfl (fun ls hl => ?_)
    exact w_X8_restore_b13 C fN ((0 : Int32)) σ H locs ls hf hP hS (lv_sub hl [1, 0] rfl)
  have hf := fif_pos q hf
  refine lv_sipush (v := (-10005 : Int32)) C.1 C.2.1 (kd kX8_restore_0 3 rfl) (by decide) ?_
  exact fl_iret C hP hS hf (kd kX8_restore_0 4 rfl)
end GM

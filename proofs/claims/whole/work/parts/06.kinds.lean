/-! the reference's kinds, its least complete set; searches of both sides over one pure function -/
section
variable {n : Nat} {p : Nat → Bool} {h : Nat → Nat → Bool} {post : Int32 → Prop} {pe ad co re : Nat → Int32}
theorem aq_T_pe {s : Nat} (h8 : n ≤ 8) (T : aq_T n p h (2 ^ n) pe ad co re) (hs : s < 2 ^ n) : pe (nI s).toNatClampNeg = aq_i (aq_pf n p h s) := by
  rw [nI_clamp (aq_31 h8 hs)]
  exact (T s hs).1
theorem aq_T_ad {s : Nat} (h8 : n ≤ 8) (T : aq_T n p h (2 ^ n) pe ad co re) (hs : s < 2 ^ n) : ad (nI s).toNatClampNeg = aq_i (aq_ad n p h s) := by
  rw [nI_clamp (aq_31 h8 hs)]
  exact (T s hs).2.1
theorem aq_T_co {s : Nat} (h8 : n ≤ 8) (T : aq_T n p h (2 ^ n) pe ad co re) (hs : s < 2 ^ n) : co (nI s).toNatClampNeg = aq_i (aq_co n p h s) := by
  rw [nI_clamp (aq_31 h8 hs)]
  exact (T s hs).2.2.1
theorem aq_T_re {s : Nat} (h8 : n ≤ 8) (T : aq_T n p h (2 ^ n) pe ad co re) (hs : s < 2 ^ n) : re (nI s).toNatClampNeg = nI (aq_R n p h s) := by
  rw [nI_clamp (aq_31 h8 hs)]
  exact (T s hs).2.2.2
theorem ay_of_pr {s : Nat} (h8 : n ≤ 8) (T : aq_T n p h (2 ^ n) pe ad co re) (hs : s < 2 ^ n) (H : post (aq_i (!aq_any (2 ^ n) fun t => aq_ad n p h t && aq_pp s t))) : ∃ m, wY_of_106 post 2 (nI s) (nI n) (nI (aq_P n p)) (aq_hs h) pe ad co re m 0 := by
  refine aq_scan (W := wY_of_106 post 2 (nI s) (nI n) (nI (aq_P n p)) (aq_hs h) pe ad co re) (2 ^ n) (fun t => aq_ad n p h t && aq_pp s t) rfl (fun K m => aq_end h8 K) (fun m i hi K1 K2 => aq_ge h8 hi (aq_lim h8 hi (br_t rfl ⟨aq_in h8 hi, aq_bx (aq_T_ad h8 T hi) (fun z => br_f (by decide) (br_f (by decide) (nm_r (nI_1 i) (K2 ?_)))) (fun z => ay_pp (aq_31 h8 hs) (aq_31 h8 hi) (aq_bz (fun z2 => br_f (by decide) (br_f (by decide) (nm_r (nI_1 i) (K2 ?_)))) (fun z2 => K1 ?_)))⟩))) (aq_sc H)
  · rw [z, Bool.false_and]
  · rw [z2, Bool.and_false]
  · rw [z, z2, Bool.and_true]
theorem ay_of_sg {s : Nat} (h8 : n ≤ 8) (T : aq_T n p h (2 ^ n) pe ad co re) (hs : s < 2 ^ n) (H : post (aq_i (!aq_any (2 ^ n) fun t => aq_pf n p h t && aq_pp (aq_R n p h s) (aq_R n p h t)))) : ∃ m, wY_of_106 post 4 (nI s) (nI n) (nI (aq_P n p)) (aq_hs h) pe ad co re m 0 := by
  refine aq_scan (W := wY_of_106 post 4 (nI s) (nI n) (nI (aq_P n p)) (aq_hs h) pe ad co re) (2 ^ n) (fun t => aq_pf n p h t && aq_pp (aq_R n p h s) (aq_R n p h t)) rfl (fun K m => aq_end h8 K) (fun m i hi K1 K2 => aq_ge h8 hi (aq_lim h8 hi (br_f (by decide) (br_t rfl ⟨aq_in h8 hi, aq_bx (aq_T_pe h8 T hi) (fun z => br_f (by decide) (nm_r (nI_1 i) (K2 ?_))) (fun z => ⟨aq_in h8 hs, aq_in h8 hi, ?_⟩)⟩)))) (aq_sc H)
  · rw [z, Bool.false_and]
  · rw [aq_T_re h8 T hi, aq_T_re h8 T hs]
    refine ay_pp (aq_31 h8 (aq_R_lt hs)) (aq_31 h8 (aq_R_lt hi)) (aq_bz (fun z2 => br_f (by decide) (nm_r (nI_1 i) (K2 ?_))) (fun z2 => K1 ?_))
    · rw [z2, Bool.and_false]
    · rw [z, z2, Bool.and_true]
theorem ay_of_ss {s : Nat} (h8 : n ≤ 8) (T : aq_T n p h (2 ^ n) pe ad co re) (hs : s < 2 ^ n) (H : post (aq_i (!aq_any (2 ^ n) fun t => aq_co n p h t && aq_pp (aq_R n p h s) (aq_R n p h t)))) : ∃ m, wY_of_106 post 5 (nI s) (nI n) (nI (aq_P n p)) (aq_hs h) pe ad co re m 0 := by
  refine aq_scan (W := wY_of_106 post 5 (nI s) (nI n) (nI (aq_P n p)) (aq_hs h) pe ad co re) (2 ^ n) (fun t => aq_co n p h t && aq_pp (aq_R n p h s) (aq_R n p h t)) rfl (fun K m => aq_end h8 K) (fun m i hi K1 K2 => aq_ge h8 hi (aq_lim h8 hi (br_f (by decide) (br_f (by decide) (br_t rfl ⟨aq_in h8 hi, aq_bx (aq_T_co h8 T hi) (fun z => nm_r (nI_1 i) (K2 ?_)) (fun z => ⟨aq_in h8 hs, aq_in h8 hi, ?_⟩)⟩))))) (aq_sc H)
  · rw [z, Bool.false_and]
  · rw [aq_T_re h8 T hi, aq_T_re h8 T hs]
    refine ay_pp (aq_31 h8 (aq_R_lt hs)) (aq_31 h8 (aq_R_lt hi)) (aq_bz (fun z2 => nm_r (nI_1 i) (K2 ?_)) (fun z2 => K1 ?_))
    · rw [z2, Bool.and_false]
    · rw [z, z2, Bool.and_true]
theorem ay_kd {k s : Nat} (h8 : n ≤ 8) (T : aq_T n p h (2 ^ n) pe ad co re) (hk : k < 6) (hs : s < 2 ^ n) (H : post (aq_i (aq_kd n p h k s))) : wpY_of post (aq_v n p h pe ad co re) (nI k) (nI s) := by
  unfold wpY_of aq_v
  dsimp only
  have hi := aq_in h8 hs
  match k, hk with
  | 0, _ =>
    refine br_t rfl ⟨hi, ?_⟩
    rw [aq_T_ad h8 T hs]
    exact ⟨aq_nar _, H⟩
  | 1, _ =>
    refine br_f (by decide) (br_t rfl ⟨hi, ?_⟩)
    rw [aq_T_co h8 T hs]
    exact ⟨aq_nar _, H⟩
  | 2, _ =>
    refine br_f (by decide) (br_f (by decide) (br_f (by decide) (br_t rfl ⟨hi, aq_bx (aq_T_ad h8 T hs) (fun z => ?_) (fun z => br_f (by decide) (br_f (by decide) (ay_of_pr h8 T hs ?_)))⟩)))
    · exact aq_pz H (show aq_pr n p h s = false by rw [aq_pr, z, Bool.false_and])
    · have e : aq_kd n p h 2 s = aq_pr n p h s := rfl
      rw [e, aq_pr, z, Bool.true_and] at H
      exact H
  | 3, _ =>
    refine br_f (by decide) (br_f (by decide) (br_t rfl ⟨hi, aq_bx (aq_T_pe h8 T hs) (fun z => ?_) (fun z => ⟨hi, aq_bc (b := aq_st n p h s) ?_ H⟩)⟩))
    · exact aq_pz H (show aq_st n p h s = false by rw [aq_st, z, Bool.false_and])
    · rw [aq_T_re h8 T hs, nI_eq (aq_31 h8 (aq_R_lt hs)) (aq_31 h8 aq_P_lt), aq_st, z, Bool.true_and, decide_eq_true_iff]
  | 4, _ =>
    refine br_f (by decide) (br_f (by decide) (br_f (by decide) (br_f (by decide) (br_t rfl ⟨hi, aq_bx (aq_T_pe h8 T hs) (fun z => ?_) (fun z => br_f (by decide) (ay_of_sg h8 T hs ?_))⟩))))
    · exact aq_pz H (show aq_sg n p h s = false by rw [aq_sg, z, Bool.false_and])
    · have e : aq_kd n p h 4 s = aq_sg n p h s := rfl
      rw [e, aq_sg, z, Bool.true_and] at H
      exact H
  | 5, _ =>
    refine br_f (by decide) (br_f (by decide) (br_f (by decide) (br_f (by decide) (br_f (by decide) (br_t rfl ⟨hi, aq_bx (aq_T_co h8 T hs) (fun z => ?_) (fun z => ay_of_ss h8 T hs ?_)⟩)))))
    · exact aq_pz H (show aq_ss n p h s = false by rw [aq_ss, z, Bool.false_and])
    · have e : aq_kd n p h 5 s = aq_ss n p h s := rfl
      rw [e, aq_ss, z, Bool.true_and] at H
      exact H
  | k + 6, hk => exact absurd hk (by omega)
/-- the inner search of least: x2 ends as aq_below -/
theorem ay_below {J : Int32 → Prop} {s : Nat} (h8 : n ≤ 8) (T : aq_T n p h (2 ^ n) pe ad co re) (hs : s < 2 ^ n) (H : wY_least_71 post J (nI s) (aq_i (aq_below n p h s)) (nI n) (nI (aq_P n p)) (aq_hs h) pe ad co re) : ∃ m, wY_least_28 post J (nI s) (nI n) (nI (aq_P n p)) (aq_hs h) pe ad co re m (aq_i (aq_co n p h s)) 0 := by
  refine aq_up (W := wY_least_28 post J (nI s) (nI n) (nI (aq_P n p)) (aq_hs h) pe ad co re) (2 ^ n) (fun i => aq_i (aq_co n p h s && !aq_any i fun t => aq_co n p h t && !aq_sb s t)) (by rw [aq_any, Bool.not_false, Bool.and_true]) rfl (fun m => aq_end h8 H) (fun m i hi K => aq_ge h8 hi (aq_lim h8 hi ⟨aq_in h8 hi, aq_bx (aq_T_co h8 T hi) (fun z => nm_r (nI_1 i) ?_) (fun z => ay_part (aq_31 h8 hs) (aq_bz (fun z2 => nm_r (nI_1 i) ?_) (fun z2 => nm_r (nI_1 i) ?_)))⟩))
  · rw [aq_any, z, Bool.false_and, Bool.or_false] at K
    exact K
  · rw [aq_any, z, z2, Bool.not_false, Bool.true_and, Bool.or_true, Bool.not_true, Bool.and_false] at K
    exact K
  · rw [aq_any, z2, Bool.not_true, Bool.and_false, Bool.or_false] at K
    exact K
theorem ay_least1 (h8 : n ≤ 8) (T : aq_T n p h (2 ^ n) pe ad co re) (H : post (nI (aq_g n p h n))) : ∀ d i, i + d = aq_g n p h n → wY_least_2 post (nI n) (nI (aq_P n p)) (aq_hs h) pe ad co re (d + 1) (nI i)
  | 0, i, e => by
    have hg : i = aq_g n p h n := by omega
    have hi : i < 2 ^ n := by rw [hg]; exact aq_g_lt n
    refine aq_ge h8 hi (aq_lim h8 hi ⟨aq_in h8 hi, nm_r (aq_T_co h8 T hi) (ay_below h8 T hi ?_)⟩)
    rw [show aq_below n p h i = true by rw [hg]; exact aq_below_g]
    refine br_f (by decide) ?_
    rw [hg]
    exact H
  | d + 1, i, e => by
    have hi : i < 2 ^ n := by have := aq_g_lt (n := n) (p := p) (h := h) n; omega
    refine aq_ge h8 hi (aq_lim h8 hi ⟨aq_in h8 hi, nm_r (aq_T_co h8 T hi) (ay_below h8 T hi ?_)⟩)
    rw [aq_below_no (show i ≠ aq_g n p h n by omega)]
    exact br_t rfl (nm_r (nI_1 i) (ay_least1 h8 T H d (i + 1) (by omega)))
theorem ay_least (h8 : n ≤ 8) (T : aq_T n p h (2 ^ n) pe ad co re) (H : post (nI (aq_g n p h n))) : wpY_least post (aq_v n p h pe ad co re) := ⟨_, ay_least1 h8 T H (aq_g n p h n) 0 (by omega)⟩
theorem ax_gr (h8 : n ≤ 8) (H : post (nI (aq_g n p h n))) : wpX_grounded post (aq_u n p h) := by
  unfold wpX_grounded aq_u
  dsimp only
  refine aq_up (W := wX_grounded_4 post (nI n) (nI (2 ^ n)) (nI (aq_P n p)) (aq_t n h)) n (fun i => nI (aq_g n p h i)) rfl rfl (fun m => br_t (nI_le (Nat.le_refl n) (by omega)) H) (fun m i hi K => br_f (nI_ge hi (by omega)) (ax_def h8 (aq_g_lt i) (aq_pf_P (aq_ad_pf (aq_g_ad i))) (nm_r (nI_1 i) K)))
/-! counting -/
def aq_cnt (f : Nat → Bool) : Nat → Nat → Int32 → Int32
  | 0, _, x => x
  | d + 1, i, x => aq_cnt f d (i + 1) (if f i then x + 1 else x)
theorem ax_cnt {k : Nat} (h8 : n ≤ 8) (hk : k < 6) : ∀ d i x, i + d = 2 ^ n → post (aq_cnt (aq_kd n p h k) d i x) → wX_count_14 post (nI k) (nI n) (nI (2 ^ n)) (nI (aq_P n p)) (aq_t n h) (d + 1) x (nI i)
  | 0, i, x, e, H => by
    have z : i = 2 ^ n := by omega
    subst z
    exact br_t (nI_le (Nat.le_refl _) (aq_31e h8)) H
  | d + 1, i, x, e, H => by
    have hi : i < 2 ^ n := by omega
    refine br_f (nI_ge hi (aq_31e h8)) (ax_kd h8 hk hi (aq_bz (fun z => nm_r (nI_1 i) (ax_cnt h8 hk d (i + 1) x (by omega) ?_)) (fun z => nm_e (nm_r (nI_1 i) (ax_cnt h8 hk d (i + 1) (x + 1) (by omega) ?_)))))
    · rw [aq_cnt, z] at H
      exact H
    · rw [aq_cnt, z] at H
      exact H
theorem ay_cnt {post : Int32 → SY → Prop} {k : Nat} (h8 : n ≤ 8) (T : aq_T n p h (2 ^ n) pe ad co re) (hk : k < 6) : ∀ d i x, i + d = 2 ^ n → post (aq_cnt (aq_kd n p h k) d i x) (aq_v n p h pe ad co re) → wY_count_18 post (nI k) (nI n) (nI (aq_P n p)) (aq_hs h) pe ad co re (d + 1) x (nI i)
  | 0, i, x, e, H => by
    have z : i = 2 ^ n := by omega
    subst z
    exact aq_end h8 H
  | d + 1, i, x, e, H => by
    have hi : i < 2 ^ n := by omega
    refine aq_ge h8 hi (ay_kd h8 T hk hi (aq_bz (fun z => nm_r (nI_1 i) (ay_cnt h8 T hk d (i + 1) x (by omega) ?_)) (fun z => nm_e (nm_r (nI_1 i) (ay_cnt h8 T hk d (i + 1) (x + 1) (by omega) ?_)))))
    · rw [aq_cnt, z] at H
      exact H
    · rw [aq_cnt, z] at H
      exact H
/-! the nth -/
def aq_nth (f : Nat → Bool) (y : Int32) : Nat → Nat → Int32 → Int32
  | 0, _, _ => -2
  | d + 1, i, x => if f i then (if x = y then nI i else aq_nth f y d (i + 1) (x + 1)) else aq_nth f y d (i + 1) x
theorem ax_nth {k : Nat} {y : Int32} (h8 : n ≤ 8) (hk : k < 6) : ∀ d i x, i + d = 2 ^ n → post (aq_nth (aq_kd n p h k) y d i x) → wX_nth_15 post (nI k) y (nI n) (nI (2 ^ n)) (nI (aq_P n p)) (aq_t n h) (d + 1) x (nI i)
  | 0, i, x, e, H => by
    have z : i = 2 ^ n := by omega
    subst z
    exact br_t (nI_le (Nat.le_refl _) (aq_31e h8)) H
  | d + 1, i, x, e, H => by
    have hi : i < 2 ^ n := by omega
    rw [aq_nth] at H
    refine br_f (nI_ge hi (aq_31e h8)) (ax_kd h8 hk hi (aq_bz (fun z => nm_r (nI_1 i) (ax_nth h8 hk d (i + 1) x (by omega) ?_)) (fun z => br_c (fun w => ?_) (fun w => nm_e (nm_r (nI_1 i) (ax_nth h8 hk d (i + 1) (x + 1) (by omega) ?_))))))
    · rw [z] at H
      exact H
    · rw [z, if_pos rfl, if_pos w] at H
      exact H
    · rw [z, if_pos rfl, if_neg w] at H
      exact H
theorem ay_nth {post : Int32 → SY → Prop} {k : Nat} {y : Int32} (h8 : n ≤ 8) (T : aq_T n p h (2 ^ n) pe ad co re) (hk : k < 6) : ∀ d i x, i + d = 2 ^ n → post (aq_nth (aq_kd n p h k) y d i x) (aq_v n p h pe ad co re) → wY_nth_19 post (nI k) y (nI n) (nI (aq_P n p)) (aq_hs h) pe ad co re (d + 1) x (nI i)
  | 0, i, x, e, H => by
    have z : i = 2 ^ n := by omega
    subst z
    exact aq_end h8 H
  | d + 1, i, x, e, H => by
    have hi : i < 2 ^ n := by omega
    rw [aq_nth] at H
    refine aq_ge h8 hi (ay_kd h8 T hk hi (aq_bz (fun z => nm_r (nI_1 i) (ay_nth h8 T hk d (i + 1) x (by omega) ?_)) (fun z => br_c (fun w => ?_) (fun w => nm_e (nm_r (nI_1 i) (ay_nth h8 T hk d (i + 1) (x + 1) (by omega) ?_))))))
    · rw [z] at H
      exact H
    · rw [z, if_pos rfl, if_pos w] at H
      exact H
    · rw [z, if_pos rfl, if_neg w] at H
      exact H
end

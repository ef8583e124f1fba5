/-! the component's walks -/
section
variable {n : Nat} {p : Nat → Bool} {h : Nat → Nat → Bool} {post : Int32 → Prop}
abbrev aq_t (n : Nat) (h : Nat → Nat → Bool) : Nat → Int32 := fun c => nI (aq_mk n (h c))
abbrev aq_u (n : Nat) (p : Nat → Bool) (h : Nat → Nat → Bool) : SX := (nI n, nI (2 ^ n), nI (aq_P n p), aq_t n h)
theorem ax_good {j : Nat} (h8 : n ≤ 8) (hj : j < n) (H : post 1) : wpX_isGood post (aq_u n p h) (nI j) := br_f (nI_pos (by omega)) (br_f (nI_ge hj (by omega)) H)
theorem ax_bad {x : Int32} (hx : x < 0 ∨ nI n ≤ x) (H : post 0) : wpX_isGood post (aq_u n p h) x := by
  by_cases z : x < 0
  · exact br_t z H
  · rcases hx with w | w
    · exact absurd w z
    · exact br_f z (br_t w H)
theorem ax_has {s c : Nat} (h8 : n ≤ 8) (hs : s < 2 ^ n) (hc : c < n) (H : post (aq_i (s.testBit c))) : wpX_contains post (aq_u n p h) (nI s) (nI c) := aq_bp (aq_one (aq_31 h8 hs) (by omega)) H
theorem ax_part {s t : Nat} (hs : s < 2 ^ 31) (H : post (aq_i (aq_sb s t))) : wpX_isPart post (aq_u n p h) (nI s) (nI t) := aq_bc (aq_sub0 hs) H
theorem ax_pp {s t : Nat} (hs : s < 2 ^ 31) (ht : t < 2 ^ 31) (H : post (aq_i (aq_pp s t))) : wpX_isProperPart post (aq_u n p h) (nI s) (nI t) := by
  unfold wpX_isProperPart aq_u
  dsimp only
  refine pk_eq s t (fun e => ?_) (fun e => ?_) rfl rfl hs ht
  · exact aq_pz H (by rw [aq_pp, decide_eq_false (by simpa using e), Bool.false_and])
  · refine ax_part hs (aq_bp rfl ?_)
    rw [aq_pp, decide_eq_true e, Bool.true_and] at H
    exact H
theorem ax_att {s : Nat} (h8 : n ≤ 8) (hs : s < 2 ^ n) (H : post (nI (aq_X n p h s))) : wpX_attackedBy post (aq_u n p h) (nI s) := by
  unfold wpX_attackedBy aq_u
  dsimp only
  refine aq_up (W := wX_attackedBy_4 post (nI s) (nI n) (nI (2 ^ n)) (nI (aq_P n p)) (aq_t n h)) n (fun i => nI (aq_acc n h s i)) (by rw [aq_acc_0]; rfl) rfl (fun m => br_t (nI_le (Nat.le_refl n) (by omega)) ?_) (fun m i hi K => br_f (nI_ge hi (by omega)) (aq_bx (aq_one (aq_31 h8 hs) (by omega)) (fun z => nm_r (nI_1 i) ?_) (fun z => ⟨vp_in_nI (by omega) (by decide), nm_r ?_ (nm_r (nI_1 i) K)⟩)))
  · rw [nx_and, aq_acc_n]
    exact H
  · rw [aq_acc_f z] at K
    exact K
  · rw [nI_clamp (by omega), ← aq_acc_t z, aq_nor]
theorem ax_def {s : Nat} (h8 : n ≤ 8) (hs : s < 2 ^ n) (hp : aq_sb s (aq_P n p) = true) (H : post (nI (aq_D n p h s))) : wpX_defendedBy post (aq_u n p h) (nI s) := by
  unfold wpX_defendedBy aq_u
  dsimp only
  refine ax_att h8 hs (nm_r (aq_ndf _ _) (ax_att h8 (aq_df_lt aq_P_lt _) ?_))
  rw [aq_ndf, aq_D_eq hp]
  exact H
theorem ax_rng {s : Nat} (h8 : n ≤ 8) (hs : s < 2 ^ n) (H : post (nI (s ||| aq_X n p h s))) : wpX_rangeOf post (aq_u n p h) (nI s) := by
  unfold wpX_rangeOf aq_u
  dsimp only
  refine ax_att h8 hs ?_
  rw [aq_nor]
  exact H
theorem aq_RX_lt {s : Nat} (hs : s < 2 ^ n) : s ||| aq_X n p h s < 2 ^ n := Nat.or_lt_two_pow hs (aq_X_lt s)
theorem ax_pf {s : Nat} (h8 : n ≤ 8) (hs : s < 2 ^ n) (H : post (aq_i (aq_pf n p h s))) : wpX_isPeaceful post (aq_u n p h) (nI s) := by
  unfold wpX_isPeaceful aq_u
  dsimp only
  refine ax_part (aq_31 h8 hs) (aq_bz (fun z => ?_) (fun z => ax_att h8 hs (aq_bc (b := aq_pf n p h s) ?_ H)))
  · exact aq_pz H (by rw [aq_pf, z, Bool.false_and])
  · rw [nx_and, aq_z (Nat.lt_of_le_of_lt Nat.and_le_left (aq_31 h8 hs)), aq_X_A z, aq_pf, z, Bool.true_and, decide_eq_true_iff]
theorem ax_ad {s : Nat} (h8 : n ≤ 8) (hs : s < 2 ^ n) (H : post (aq_i (aq_ad n p h s))) : wpX_isAdmissible post (aq_u n p h) (nI s) := by
  unfold wpX_isAdmissible aq_u
  dsimp only
  refine ax_pf h8 hs (aq_bz (fun z => ?_) (fun z => ax_def h8 hs (aq_pf_P z) (aq_bc (b := aq_ad n p h s) ?_ H)))
  · exact aq_pz H (by rw [aq_ad, z, Bool.false_and])
  · rw [aq_sub0 (aq_31 h8 hs), aq_ad, z, Bool.true_and]
theorem ax_co {s : Nat} (h8 : n ≤ 8) (hs : s < 2 ^ n) (H : post (aq_i (aq_co n p h s))) : wpX_isComplete post (aq_u n p h) (nI s) := by
  unfold wpX_isComplete aq_u
  dsimp only
  refine ax_pf h8 hs (aq_bz (fun z => ?_) (fun z => ax_def h8 hs (aq_pf_P z) (aq_bc (b := aq_co n p h s) ?_ H)))
  · exact aq_pz H (by rw [aq_co, aq_ad, z, Bool.false_and, Bool.false_and])
  · rw [nI_eq (aq_31 h8 hs) (aq_31 h8 (aq_D_lt s)), aq_co_eq z, decide_eq_true_iff]
theorem aq_sc {N : Nat} {f : Nat → Bool} (H : post (aq_i (!aq_any N f))) : post (if aq_any N f then 0 else 1) := by
  cases e : aq_any N f with
  | false => rw [e] at H; exact H
  | true => rw [e] at H; exact H
theorem ax_pr {s : Nat} (h8 : n ≤ 8) (hs : s < 2 ^ n) (H : post (aq_i (aq_pr n p h s))) : wpX_isPreferred post (aq_u n p h) (nI s) := by
  unfold wpX_isPreferred aq_u
  dsimp only
  refine ax_ad h8 hs (aq_bz (fun z => ?_) (fun z => ?_))
  · exact aq_pz H (by rw [aq_pr, z, Bool.false_and])
  · rw [aq_pr, z, Bool.true_and] at H
    refine aq_scan (W := wX_isPreferred_12 post (nI s) (nI n) (nI (2 ^ n)) (nI (aq_P n p)) (aq_t n h)) (2 ^ n) (fun t => aq_ad n p h t && aq_pp s t) rfl (fun K m => br_t (nI_le (Nat.le_refl _) (aq_31e h8)) K) (fun m i hi K1 K2 => br_f (nI_ge hi (aq_31e h8)) ?_) (aq_sc H)
    refine ax_pp (aq_31 h8 hs) (aq_31 h8 hi) (aq_bz (fun z1 => nm_r (nI_1 i) (K2 ?_)) (fun z1 => ax_ad h8 hi (aq_bz (fun z2 => nm_r (nI_1 i) (K2 ?_)) (fun z2 => K1 ?_))))
    · rw [z1, Bool.and_false]
    · rw [z2, Bool.false_and]
    · rw [z1, z2, Bool.and_true]
theorem ax_st {s : Nat} (h8 : n ≤ 8) (hs : s < 2 ^ n) (H : post (aq_i (aq_st n p h s))) : wpX_isStable post (aq_u n p h) (nI s) := by
  unfold wpX_isStable aq_u
  dsimp only
  refine ax_pf h8 hs (aq_bz (fun z => ?_) (fun z => ax_rng h8 hs (aq_bc (b := aq_st n p h s) ?_ H)))
  · exact aq_pz H (by rw [aq_st, z, Bool.false_and])
  · rw [aq_X_A (aq_pf_P z)]
    show nI (aq_R n p h s) = nI (aq_P n p) ↔ _
    rw [nI_eq (aq_31 h8 (aq_R_lt hs)) (aq_31 h8 aq_P_lt), aq_st, z, Bool.true_and, decide_eq_true_iff]
theorem aq_RXf {g : Nat → Bool} (hg : ∀ t, g t = true → aq_pf n p h t = true) (r t : Nat) : (g t && aq_pp r (t ||| aq_X n p h t)) = (g t && aq_pp r (aq_R n p h t)) := by
  cases e : g t with
  | false => rfl
  | true => rw [aq_X_A (aq_pf_P (hg t e)), aq_R]
theorem ax_sg {s : Nat} (h8 : n ≤ 8) (hs : s < 2 ^ n) (H : post (aq_i (aq_sg n p h s))) : wpX_isStage post (aq_u n p h) (nI s) := by
  unfold wpX_isStage aq_u
  dsimp only
  refine ax_pf h8 hs (aq_bz (fun z => ?_) (fun z => ax_rng h8 hs ?_))
  · exact aq_pz H (by rw [aq_sg, z, Bool.false_and])
  · rw [aq_sg, z, Bool.true_and] at H
    rw [aq_X_A (aq_pf_P z)]
    refine aq_scan (W := wX_isStage_18 post (nI (s ||| aq_A n p h s)) (nI n) (nI (2 ^ n)) (nI (aq_P n p)) (aq_t n h)) (2 ^ n) (fun t => aq_pf n p h t && aq_pp (aq_R n p h s) (aq_R n p h t)) rfl (fun K m => br_t (nI_le (Nat.le_refl _) (aq_31e h8)) K) (fun m i hi K1 K2 => br_f (nI_ge hi (aq_31e h8)) ?_) (aq_sc H)
    rw [← aq_RXf (fun _ z => z)] at K1 K2
    refine ax_rng h8 hi (ax_pp (aq_31 h8 (aq_R_lt hs)) (aq_31 h8 (aq_RX_lt hi)) (aq_bz (fun z1 => nm_r (nI_1 i) (K2 ?_)) (fun z1 => ax_pf h8 hi (aq_bz (fun z2 => nm_r (nI_1 i) (K2 ?_)) (fun z2 => K1 ?_)))))
    · rw [aq_R, z1, Bool.and_false]
    · rw [z2, Bool.false_and]
    · rw [aq_R, z1, z2, Bool.and_true]
theorem ax_ss {s : Nat} (h8 : n ≤ 8) (hs : s < 2 ^ n) (H : post (aq_i (aq_ss n p h s))) : wpX_isSemistable post (aq_u n p h) (nI s) := by
  unfold wpX_isSemistable aq_u
  dsimp only
  refine ax_co h8 hs (aq_bz (fun z => ?_) (fun z => ax_rng h8 hs ?_))
  · exact aq_pz H (by rw [aq_ss, z, Bool.false_and])
  · rw [aq_ss, z, Bool.true_and] at H
    rw [aq_X_A (aq_pf_P (aq_co_pf z))]
    refine aq_scan (W := wX_isSemistable_18 post (nI (s ||| aq_A n p h s)) (nI n) (nI (2 ^ n)) (nI (aq_P n p)) (aq_t n h)) (2 ^ n) (fun t => aq_co n p h t && aq_pp (aq_R n p h s) (aq_R n p h t)) rfl (fun K m => br_t (nI_le (Nat.le_refl _) (aq_31e h8)) K) (fun m i hi K1 K2 => br_f (nI_ge hi (aq_31e h8)) ?_) (aq_sc H)
    rw [← aq_RXf (fun _ z => aq_co_pf z)] at K1 K2
    refine ax_rng h8 hi (ax_pp (aq_31 h8 (aq_R_lt hs)) (aq_31 h8 (aq_RX_lt hi)) (aq_bz (fun z1 => nm_r (nI_1 i) (K2 ?_)) (fun z1 => ax_co h8 hi (aq_bz (fun z2 => nm_r (nI_1 i) (K2 ?_)) (fun z2 => K1 ?_)))))
    · rw [aq_R, z1, Bool.and_false]
    · rw [z2, Bool.false_and]
    · rw [aq_R, z1, z2, Bool.and_true]
theorem ax_kd {k s : Nat} (h8 : n ≤ 8) (hk : k < 6) (hs : s < 2 ^ n) (H : post (aq_i (aq_kd n p h k s))) : wpX_isOfKind post (aq_u n p h) (nI k) (nI s) := by
  unfold wpX_isOfKind aq_u
  dsimp only
  match k, hk with
  | 0, _ => exact br_f (by decide) (br_f (by decide) (br_t rfl (ax_ad h8 hs ⟨aq_nar _, H⟩)))
  | 1, _ => exact br_f (by decide) (br_f (by decide) (br_f (by decide) (br_t rfl (ax_co h8 hs ⟨aq_nar _, H⟩))))
  | 2, _ => exact br_f (by decide) (br_f (by decide) (br_f (by decide) (br_f (by decide) (br_t rfl (ax_pr h8 hs ⟨aq_nar _, H⟩)))))
  | 3, _ => exact br_f (by decide) (br_f (by decide) (br_f (by decide) (br_f (by decide) (br_f (by decide) (br_t rfl (ax_st h8 hs ⟨aq_nar _, H⟩))))))
  | 4, _ => exact br_f (by decide) (br_f (by decide) (br_f (by decide) (br_f (by decide) (br_f (by decide) (br_f (by decide) (br_t rfl (ax_sg h8 hs ⟨aq_nar _, H⟩)))))))
  | 5, _ => exact br_f (by decide) (br_f (by decide) (br_f (by decide) (br_f (by decide) (br_f (by decide) (br_f (by decide) (br_f (by decide) (br_t rfl (ax_ss h8 hs ⟨aq_nar _, H⟩))))))))
  | k + 6, hk => exact absurd hk (by omega)
end

/-! the reference's walks -/
section
variable {n : Nat} {p : Nat → Bool} {h : Nat → Nat → Bool} {post : Int32 → Prop} {pe ad co re : Nat → Int32}
abbrev aq_hs (h : Nat → Nat → Bool) : Nat → Int32 := fun i => aq_i (h (i / 8) (i % 8))
abbrev aq_v (n : Nat) (p : Nat → Bool) (h : Nat → Nat → Bool) (pe ad co re : Nat → Int32) : SY := (nI n, nI (aq_P n p), aq_hs h, pe, ad, co, re)
theorem aq_8 {a : Nat} {A B : Prop} (ha : a < 8) (H : B) : (8 ≤ nI a → A) ∧ (¬ 8 ≤ nI a → B) := br_f (nI_ge (b := 8) ha (by decide)) H
theorem ay_good {j : Nat} (h8 : n ≤ 8) (hj : j < n) (H : post 0) : wpY_bad post (aq_v n p h pe ad co re) (nI j) := br_f (nI_pos (by omega)) (br_f (nI_ge hj (by omega)) (br_t (nI_lt (b := 8) (by omega) (by decide)) H))
theorem ay_bad {x : Int32} (hx : x < 0 ∨ nI n ≤ x) (H : post 1) : wpY_bad post (aq_v n p h pe ad co re) x := by
  by_cases z : x < 0
  · exact br_t z H
  · rcases hx with w | w
    · exact absurd w z
    · exact br_f z (br_t w H)
theorem ay_in {s c : Nat} (hs : s < 2 ^ 31) (hc : c < 32) (H : post (aq_i (s.testBit c))) : wpY_in post (aq_v n p h pe ad co re) (nI s) (nI c) := aq_bp1 (aq_one hs hc) H
theorem aq_ix (a b : Nat) : (8 : Int32) * nI a + nI b = nI (8 * a + b) := by
  show nI 8 * nI a + nI b = _
  rw [pk_mul, nI_add]
theorem aq_hs_at {a b : Nat} (ha : a < 8) (hb : b < 8) : aq_hs h (nI (8 * a + b)).toNatClampNeg = aq_i (h a b) := by
  rw [nI_clamp (by omega)]
  show aq_i (h ((8 * a + b) / 8) ((8 * a + b) % 8)) = _
  rw [show (8 * a + b) / 8 = a by omega, show (8 * a + b) % 8 = b by omega]
theorem ay_str {a b : Nat} (h8 : n ≤ 8) (ha : a < n) (hb : b < n) (H : post (aq_i (aq_r p h a b))) : wpY_strikes post (aq_v n p h pe ad co re) (nI a) (nI b) := by
  unfold wpY_strikes aq_v
  dsimp only
  rw [aq_ix]
  refine ay_in (aq_31 h8 aq_P_lt) (by omega) ?_
  rw [aq_Pt ha]
  refine aq_bz (fun z => ?_) (fun z => ay_in (aq_31 h8 aq_P_lt) (by omega) ?_)
  · exact aq_pz H (by rw [aq_r, z, Bool.false_and, Bool.false_and])
  · rw [aq_Pt hb]
    refine aq_bz (fun z2 => ?_) (fun z2 => ⟨vp_in_nI (by omega) (by decide), aq_bp (aq_hs_at (by omega) (by omega)) ?_⟩)
    · exact aq_pz H (by rw [aq_r, z2, Bool.and_false, Bool.false_and])
    · rw [aq_r, z, z2, Bool.true_and, Bool.true_and] at H
      exact H
theorem ay_row {J : Int32 → Int32 → Prop} {s a acc : Nat} (h8 : n ≤ 8) (hs : s < 2 ^ n) (ha : a < n) (H : J (nI (acc ||| aq_mk n fun b => s.testBit a && aq_r p h a b)) (nI (a + 1))) : ∃ m, wY_attacked_21 post J (nI s) (nI a) (nI n) (nI (aq_P n p)) (aq_hs h) pe ad co re m (nI acc) 0 := by
  refine aq_up (W := wY_attacked_21 post J (nI s) (nI a) (nI n) (nI (aq_P n p)) (aq_hs h) pe ad co re) n (fun i => nI (acc ||| aq_mk i fun b => s.testBit a && aq_r p h a b)) (by rw [aq_mk, Nat.or_zero]) rfl (fun m => br_t (nI_le (Nat.le_refl n) (by omega)) (nm_r (nI_1 a) H)) (fun m i hi K => br_f (nI_ge hi (by omega)) (aq_8 (by omega) (ay_in (aq_31 h8 hs) (by omega) (aq_bz (fun z => nm_r (nI_1 i) ?_) (fun z => ay_str h8 ha hi (aq_bz (fun z2 => nm_r (nI_1 i) ?_) (fun z2 => nm_r ?_ (nm_r (nI_1 i) K))))))))
  · rw [aq_mk_f (by rw [z, Bool.false_and])] at K
    exact K
  · rw [aq_mk_f (by rw [z2, Bool.and_false])] at K
    exact K
  · rw [aq_pow (by omega), aq_nor, Nat.or_assoc, aq_mk_t (by rw [z, z2, Bool.and_true])]
theorem ay_att {s : Nat} (h8 : n ≤ 8) (hs : s < 2 ^ n) (H : post (nI (aq_A n p h s))) : wpY_attacked post (aq_v n p h pe ad co re) (nI s) := by
  unfold wpY_attacked aq_v
  dsimp only
  refine aq_up (W := wY_attacked_4 post (nI s) (nI n) (nI (aq_P n p)) (aq_hs h) pe ad co re) n (fun c => nI (aq_mk n fun b => aq_any c fun a => s.testBit a && aq_r p h a b)) ?_ rfl (fun m => br_t (nI_le (Nat.le_refl n) (by omega)) H) (fun m i hi K => br_f (nI_ge hi (by omega)) (aq_8 (by omega) (ay_row h8 hs hi ?_)))
  · show _ = nI (aq_mk n fun _ => false)
    rw [aq_mk_0]
    rfl
  · rw [aq_mk_or]
    exact K
theorem ay_drow {J : Int32 → Int32 → Prop} {s a acc : Nat} (h8 : n ≤ 8) (hs : s < 2 ^ n) (ha : a < n) (H : J (nI (aq_df acc (aq_mk n fun b => aq_r p h a b && !s.testBit a))) (nI (a + 1))) : ∃ m, wY_defends_33 post J (nI s) (nI a) (nI n) (nI (aq_P n p)) (aq_hs h) pe ad co re m (nI acc) 0 := by
  refine aq_up (W := wY_defends_33 post J (nI s) (nI a) (nI n) (nI (aq_P n p)) (aq_hs h) pe ad co re) n (fun i => nI (aq_df acc (aq_mk i fun b => aq_r p h a b && !s.testBit a))) (by rw [aq_mk, aq_df, Nat.and_zero, Nat.xor_zero]) rfl (fun m => br_t (nI_le (Nat.le_refl n) (by omega)) (nm_r (nI_1 a) H)) (fun m i hi K => br_f (nI_ge hi (by omega)) (aq_8 (by omega) (ay_str h8 ha hi (aq_bz (fun z => nm_r (nI_1 i) ?_) (fun z => ay_in (aq_31 h8 hs) (by omega) (aq_bz (fun z2 => nm_r ?_ (nm_r (nI_1 i) K)) (fun z2 => nm_r (nI_1 i) ?_)))))))
  · rw [aq_mk_f (by rw [z, Bool.false_and])] at K
    exact K
  · rw [aq_pow (by omega), aq_ndf, aq_df_or, aq_mk_t (by rw [z, z2]; rfl)]
  · rw [aq_mk_f (by rw [z2, Bool.not_true, Bool.and_false])] at K
    exact K
theorem aq_D_df (s : Nat) : aq_df (aq_P n p) (aq_mk n fun b => aq_any n fun a => aq_r p h a b && !(aq_A n p h s).testBit a) = aq_D n p h s := by
  rw [aq_D, aq_P]
  apply Nat.eq_of_testBit_eq
  intro i
  rw [aq_df_tb, aq_mk_tb, aq_mk_tb, aq_mk_tb]
  generalize (aq_any n fun a => aq_r p h a i && !(aq_A n p h s).testBit a) = z
  cases decide (i < n) <;> cases p i <;> cases z <;> rfl
theorem ay_def {s : Nat} (h8 : n ≤ 8) (hs : s < 2 ^ n) (H : post (nI (aq_D n p h s))) : wpY_defends post (aq_v n p h pe ad co re) (nI s) := by
  unfold wpY_defends aq_v
  dsimp only
  refine ay_att h8 hs ?_
  refine aq_up (W := wY_defends_14 post (nI (aq_A n p h s)) (nI n) (nI (aq_P n p)) (aq_hs h) pe ad co re) n (fun c => nI (aq_df (aq_P n p) (aq_mk n fun b => aq_any c fun a => aq_r p h a b && !(aq_A n p h s).testBit a))) ?_ rfl (fun m => br_t (nI_le (Nat.le_refl n) (by omega)) ?_) (fun m i hi K => br_f (nI_ge hi (by omega)) (aq_8 (by omega) (ay_drow h8 (aq_A_lt s) hi ?_)))
  · show _ = nI (aq_df (aq_P n p) (aq_mk n fun _ => false))
    rw [aq_mk_0, aq_df, Nat.and_zero, Nat.xor_zero]
  · rw [aq_D_df]
    exact H
  · rw [aq_df_or, aq_mk_or]
    exact K
theorem ay_part {s t : Nat} (hs : s < 2 ^ 31) (H : post (aq_i (aq_sb s t))) : wpY_part post (aq_v n p h pe ad co re) (nI s) (nI t) := aq_bc (aq_sub1 hs) H
theorem ay_pp {s t : Nat} (hs : s < 2 ^ 31) (ht : t < 2 ^ 31) (H : post (aq_i (aq_pp s t))) : wpY_properPart post (aq_v n p h pe ad co re) (nI s) (nI t) := by
  unfold wpY_properPart aq_v
  dsimp only
  refine pk_eq s t (fun e => ?_) (fun e => ?_) rfl rfl hs ht
  · exact aq_pz H (by rw [aq_pp, decide_eq_false (by simpa using e), Bool.false_and])
  · refine ay_part hs (aq_bp rfl ?_)
    rw [aq_pp, decide_eq_true e, Bool.true_and] at H
    exact H
/-- the tables are right below m -/
def aq_T (n : Nat) (p : Nat → Bool) (h : Nat → Nat → Bool) (m : Nat) (pe ad co re : Nat → Int32) : Prop := ∀ s, s < m → pe s = aq_i (aq_pf n p h s) ∧ ad s = aq_i (aq_ad n p h s) ∧ co s = aq_i (aq_co n p h s) ∧ re s = nI (aq_R n p h s)
theorem aq_T_up {m : Nat} (H : aq_T n p h m pe ad co re) : aq_T n p h (m + 1) (upd pe m (aq_i (aq_pf n p h m))) (upd ad m (aq_i (aq_ad n p h m))) (upd co m (aq_i (aq_co n p h m))) (upd re m (nI (aq_R n p h m))) := by
  intro s hs
  by_cases e : s = m
  · subst e
    exact ⟨pk_us, pk_us, pk_us, pk_us⟩
  · rw [pk_un e, pk_un e, pk_un e, pk_un e]
    exact H s (by omega)
theorem ay_101 {post : SY → Prop} {J : Int32 → (Nat → Int32) → (Nat → Int32) → (Nat → Int32) → (Nat → Int32) → (Nat → Int32) → Prop} {s : Nat} (h8 : n ≤ 8) (hs : s < 2 ^ n) (H : J (nI (s + 1)) (aq_hs h) pe (upd ad s (aq_i (aq_ad n p h s))) (upd co s (aq_i (aq_co n p h s))) re) : wY_tabulate_101 post J (nI s) (nI (aq_D n p h s)) (aq_i (aq_ad n p h s)) (nI s) (nI n) (nI (aq_P n p)) (aq_hs h) pe ad co re := by
  unfold wY_tabulate_101
  rw [nI_clamp (aq_31 h8 hs), aq_vnar, nI_1]
  have hi := aq_in h8 hs
  refine ⟨hi, nm_e ⟨hi, aq_bx pk_us (fun z => ⟨hi, nm_e (nm_e ?_)⟩) (fun z => ay_part (aq_31 h8 (aq_D_lt s)) (aq_bz (fun z2 => ⟨hi, nm_e (nm_e ?_)⟩) (fun z2 => ⟨hi, nm_e (nm_e ?_)⟩)))⟩⟩
  · rw [show aq_co n p h s = false by rw [aq_co, z, Bool.false_and]] at H
    exact H
  · rw [show aq_co n p h s = false by rw [aq_co, z2, Bool.and_false]] at H
    exact H
  · rw [show aq_co n p h s = true by rw [aq_co, z, z2, Bool.true_and]] at H
    exact H
theorem ay_62 {post : SY → Prop} {J : Int32 → (Nat → Int32) → (Nat → Int32) → (Nat → Int32) → (Nat → Int32) → (Nat → Int32) → Prop} {s : Nat} (h8 : n ≤ 8) (hs : s < 2 ^ n) (H : J (nI (s + 1)) (aq_hs h) (upd pe s (aq_i (aq_pf n p h s))) (upd ad s (aq_i (aq_ad n p h s))) (upd co s (aq_i (aq_co n p h s))) (upd re s (nI (aq_R n p h s)))) : wY_tabulate_62 post J (nI s) (nI (aq_A n p h s)) (nI (aq_D n p h s)) (aq_i (aq_pf n p h s)) (nI s) (nI n) (nI (aq_P n p)) (aq_hs h) pe ad co re := by
  unfold wY_tabulate_62 wY_tabulate_100
  rw [nI_clamp (aq_31 h8 hs), aq_vnar, aq_nor]
  have hi := aq_in h8 hs
  have K := ay_101 (post := post) (J := J) h8 hs H
  refine ⟨hi, nm_e ⟨hi, nm_e ⟨hi, aq_bx pk_us (fun z => ?_) (fun z => ay_part (aq_31 h8 hs) (aq_bz (fun z2 => ?_) (fun z2 => ?_)))⟩⟩⟩
  · rw [show aq_ad n p h s = false by rw [aq_ad, z, Bool.false_and]] at K
    exact K
  · rw [show aq_ad n p h s = false by rw [aq_ad, z2, Bool.and_false]] at K
    exact K
  · rw [show aq_ad n p h s = true by rw [aq_ad, z, z2, Bool.true_and]] at K
    exact K
theorem ay_tab1 {post : SY → Prop} (h8 : n ≤ 8) (H : ∀ pe ad co re, aq_T n p h (2 ^ n) pe ad co re → post (aq_v n p h pe ad co re)) : ∀ (d i : Nat) (pe ad co re : Nat → Int32), i + d = 2 ^ n → aq_T n p h i pe ad co re → wY_tabulate_2 post (nI n) (nI (aq_P n p)) (d + 1) (nI i) (aq_hs h) pe ad co re
  | 0, i, pe, ad, co, re, e, T => by
    have z : i = 2 ^ n := by omega
    subst z
    exact aq_end h8 (H pe ad co re T)
  | d + 1, i, pe, ad, co, re, e, T => by
    have hi : i < 2 ^ n := by omega
    have K := ay_62 (post := post) (J := wY_tabulate_2 post (nI n) (nI (aq_P n p)) (d + 1)) h8 hi (ay_tab1 h8 H d (i + 1) _ _ _ _ (by omega) (aq_T_up T))
    refine aq_ge h8 hi (aq_lim h8 hi (ay_part (aq_31 h8 hi) (ay_att h8 hi (ay_def h8 hi (aq_bz (fun z => ?_) (fun z => aq_if (b := aq_pf n p h i) ?_ (fun z2 => ?_) (fun z2 => ?_)))))))
    · rw [show aq_pf n p h i = false by rw [aq_pf, z, Bool.false_and]] at K
      exact K
    · rw [nx_and, aq_z (Nat.lt_of_le_of_lt Nat.and_le_right (aq_31 h8 hi)), aq_pf, z, Bool.true_and, decide_eq_true_iff, Nat.and_comm]
    · rw [z2] at K
      exact K
    · rw [z2] at K
      exact K
theorem ay_tab {post : SY → Prop} (h8 : n ≤ 8) (H : ∀ pe ad co re, aq_T n p h (2 ^ n) pe ad co re → post (aq_v n p h pe ad co re)) : wpY_tabulate post (aq_v n p h pe ad co re) := ⟨2 ^ n + 1, ay_tab1 h8 H (2 ^ n) 0 pe ad co re (by omega) fun s hs => absurd hs (by omega)⟩
end

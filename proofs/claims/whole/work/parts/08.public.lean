/-! the public methods: one answer for both sides -/
section
variable {n : Nat} {p : Nat → Bool} {h : Nat → Nat → Bool} {post : Int32 → Prop} {pe ad co re : Nat → Int32}
theorem aq_yes {b : Bool} {A B : Prop} (e : b = true) (H : B) : (aq_i b = 0 → A) ∧ (¬ aq_i b = 0 → B) := aq_bz (fun z => absurd (e.symm.trans z) (by decide)) (fun _ => H)
theorem aq_no {b : Bool} {A B : Prop} (e : b = false) (H : A) : (aq_i b = 0 → A) ∧ (¬ aq_i b = 0 → B) := aq_bz (fun _ => H) (fun z => absurd (e.symm.trans z) (by decide))
theorem aq_6 {x : Int32} (z : nI 6 ≤ x) : 5 < x := by
  rw [Int32.le_iff_toInt_le, show (nI 6).toInt = 6 by decide] at z
  rw [Int32.lt_iff_toInt_lt, show (5 : Int32).toInt = 5 by decide]
  omega
theorem ax_kok {k : Nat} (hk : k < 6) (H : post 1) : wpX_isKind post (aq_u n p h) (nI k) := br_f (nI_pos (by omega)) (br_f (nI_nlt (b := k) (a := 5) (by omega) (by decide)) H)
theorem ax_kno {x : Int32} (hx : x < 0 ∨ nI 6 ≤ x) (H : post 0) : wpX_isKind post (aq_u n p h) x := by
  by_cases z : x < 0
  · exact br_t z H
  · rcases hx with w | w
    · exact absurd w z
    · exact br_f z (br_t (aq_6 w) H)
theorem ay_kok {k : Nat} (hk : k < 6) (H : post 0) : wpY_badKind post (aq_v n p h pe ad co re) (nI k) := br_f (nI_pos (by omega)) (br_t (nI_le (a := k) (b := 5) (by omega) (by decide)) H)
theorem ay_kno {x : Int32} (hx : x < 0 ∨ nI 6 ≤ x) (H : post 1) : wpY_badKind post (aq_v n p h pe ad co re) x := by
  by_cases z : x < 0
  · exact br_t z H
  · rcases hx with w | w
    · exact absurd w z
    · exact br_f z (br_f (Int32.not_le.mpr (aq_6 w)) H)
theorem aq_k (x : Int32) : (x < 0 ∨ nI 6 ≤ x) ∨ ∃ j : Nat, j < 6 ∧ x = nI j := by
  rcases pk_ix x (n := 6) (by decide) with z | z | z
  · exact Or.inl (Or.inl z)
  · exact Or.inl (Or.inr z)
  · exact Or.inr z
theorem aq_c (x : Int32) (h8 : n ≤ 8) : (x < 0 ∨ nI n ≤ x) ∨ ∃ j : Nat, j < n ∧ x = nI j := by
  rcases pk_ix x (n := n) (by omega) with z | z | z
  · exact Or.inl (Or.inl z)
  · exact Or.inl (Or.inr z)
  · exact Or.inr z
theorem aq_s (x : Int32) (h8 : n ≤ 8) : (x < 0 ∨ nI (2 ^ n) ≤ x) ∨ ∃ j : Nat, j < 2 ^ n ∧ x = nI j := by
  rcases pk_ix x (n := 2 ^ n) (aq_31e h8) with z | z | z
  · exact Or.inl (Or.inl z)
  · exact Or.inl (Or.inr z)
  · exact Or.inr z
theorem ax_fno {x : Int32} (hx : x < 0 ∨ nI (2 ^ n) ≤ x) (H : post (-2)) : wpX_faultOf post (aq_u n p h) x := by
  by_cases z : x < 0
  · exact br_t z H
  · rcases hx with w | w
    · exact absurd w z
    · exact br_f z (br_f (Int32.not_lt.mpr w) H)
theorem ax_fout {s : Nat} (h8 : n ≤ 8) (hs : s < 2 ^ n) (z : aq_sb s (aq_P n p) = false) (H : post (-3)) : wpX_faultOf post (aq_u n p h) (nI s) := by
  unfold wpX_faultOf aq_u
  dsimp only
  refine br_f (nI_pos (aq_31 h8 hs)) (br_t (nI_lt hs (aq_31e h8)) (ax_part (aq_31 h8 hs) ?_))
  rw [z]
  exact br_t rfl H
theorem ax_fok {s : Nat} (h8 : n ≤ 8) (hs : s < 2 ^ n) (z : aq_sb s (aq_P n p) = true) (H : post 0) : wpX_faultOf post (aq_u n p h) (nI s) := by
  unfold wpX_faultOf aq_u
  dsimp only
  refine br_f (nI_pos (aq_31 h8 hs)) (br_t (nI_lt hs (aq_31e h8)) (ax_part (aq_31 h8 hs) ?_))
  rw [z]
  exact br_f (by decide) H
theorem ay_sno {x : Int32} (h8 : n ≤ 8) (hx : x < 0 ∨ nI (2 ^ n) ≤ x) (H : post 1) : wpY_badSet post (aq_v n p h pe ad co re) x := by
  unfold wpY_badSet aq_v
  dsimp only
  rw [aq_pow (by omega)]
  by_cases z : x < 0
  · exact br_t z H
  · rcases hx with w | w
    · exact absurd w z
    · exact br_f z (br_f (Int32.not_lt.mpr w) H)
theorem ay_sok {s : Nat} (h8 : n ≤ 8) (hs : s < 2 ^ n) (H : post 0) : wpY_badSet post (aq_v n p h pe ad co re) (nI s) := by
  unfold wpY_badSet aq_v
  dsimp only
  rw [aq_pow (by omega)]
  exact br_f (nI_pos (aq_31 h8 hs)) (br_t (nI_lt hs (aq_31e h8)) H)
/-- one answer: X's walk from u, Y's walk from v into a state of the same picture -/
def aq_both (n : Nat) (p : Nat → Bool) (h : Nat → Nat → Bool) (WX : (Int32 → Prop) → Prop) (WY : (Int32 → SY → Prop) → Prop) : Prop := ∃ r, (∀ post : Int32 → Prop, post r → WX post) ∧ (∀ post : Int32 → SY → Prop, (∀ pe ad co re, post r (aq_v n p h pe ad co re)) → WY post)
theorem a_grounded (h8 : n ≤ 8) : aq_both n p h (fun post => wpX_grounded post (aq_u n p h)) (fun post => wpY_grounded post (aq_v n p h pe ad co re)) := by
  refine ⟨nI (aq_g n p h n), fun post H => ax_gr h8 H, fun post H => ?_⟩
  dsimp only
  unfold wpY_grounded aq_v
  dsimp only
  exact ay_tab h8 fun pe ad co re T => ay_least h8 T (H pe ad co re)
theorem a_label (h8 : n ≤ 8) (x : Int32) : aq_both n p h (fun post => wpX_groundedLabel post (aq_u n p h) x) (fun post => wpY_groundedLabel post (aq_v n p h pe ad co re) x) := by
  unfold aq_both
  dsimp only
  unfold wpX_groundedLabel wpY_groundedLabel aq_u aq_v
  dsimp only
  rcases aq_c x h8 with z | ⟨c, hc, rfl⟩
  · exact ⟨-1, fun post H => ax_bad z (br_t rfl H), fun post H => ay_bad z (br_f (by decide) (H _ _ _ _))⟩
  · have hP := aq_P_lt (n := n) (p := p)
    have hg := aq_g_lt (n := n) (p := p) (h := h) n
    have hgP := aq_pf_P (aq_ad_pf (aq_g_ad (n := n) (p := p) (h := h) n))
    cases e1 : (aq_P n p).testBit c with
    | false => exact ⟨-2, fun post H => ax_good h8 hc (br_f (by decide) (ax_has h8 hP hc (aq_no e1 (H)))), fun post H => ay_good h8 hc (br_t rfl (ay_in (aq_31 h8 hP) (by omega) (aq_no e1 (H _ _ _ _))))⟩
    | true =>
      cases e2 : (aq_g n p h n).testBit c with
      | true => exact ⟨0, fun post H => ax_good h8 hc (br_f (by decide) (ax_has h8 hP hc (aq_yes e1 (ax_gr h8 (ax_has h8 hg hc (aq_yes e2 (H))))))), fun post H => ay_good h8 hc (br_t rfl (ay_in (aq_31 h8 hP) (by omega) (aq_yes e1 (ay_tab h8 fun pe ad co re T => ay_least h8 T (ay_in (aq_31 h8 hg) (by omega) (aq_yes e2 (H _ _ _ _)))))))⟩
      | false =>
        have hA := aq_A_lt (n := n) (p := p) (h := h) (aq_g n p h n)
        cases e3 : (aq_A n p h (aq_g n p h n)).testBit c with
        | true => exact ⟨1, fun post H => ax_good h8 hc (br_f (by decide) (ax_has h8 hP hc (aq_yes e1 (ax_gr h8 (ax_has h8 hg hc (aq_no e2 (ax_att h8 hg (by rw [aq_X_A hgP]; exact ax_has h8 hA hc (aq_yes e3 (H)))))))))), fun post H => ay_good h8 hc (br_t rfl (ay_in (aq_31 h8 hP) (by omega) (aq_yes e1 (ay_tab h8 fun pe ad co re T => ay_least h8 T (ay_in (aq_31 h8 hg) (by omega) (aq_no e2 (ay_att h8 hg (ay_in (aq_31 h8 hA) (by omega) (aq_yes e3 (H _ _ _ _))))))))))⟩
        | false => exact ⟨2, fun post H => ax_good h8 hc (br_f (by decide) (ax_has h8 hP hc (aq_yes e1 (ax_gr h8 (ax_has h8 hg hc (aq_no e2 (ax_att h8 hg (by rw [aq_X_A hgP]; exact ax_has h8 hA hc (aq_no e3 (H)))))))))), fun post H => ay_good h8 hc (br_t rfl (ay_in (aq_31 h8 hP) (by omega) (aq_yes e1 (ay_tab h8 fun pe ad co re T => ay_least h8 T (ay_in (aq_31 h8 hg) (by omega) (aq_no e2 (ay_att h8 hg (ay_in (aq_31 h8 hA) (by omega) (aq_no e3 (H _ _ _ _))))))))))⟩
theorem a_is (h8 : n ≤ 8) (x y : Int32) : aq_both n p h (fun post => wpX_is post (aq_u n p h) x y) (fun post => wpY_is post (aq_v n p h pe ad co re) x y) := by
  unfold aq_both
  dsimp only
  unfold wpX_is wpY_is aq_u aq_v
  dsimp only
  rcases aq_k x with z | ⟨k, hk, rfl⟩
  · exact ⟨-1, fun post H => ax_kno z (br_t rfl H), fun post H => ay_kno z (br_f (by decide) (H _ _ _ _))⟩
  · rcases aq_s y h8 with z | ⟨s, hs, rfl⟩
    · exact ⟨-2, fun post H => ax_kok hk (br_f (by decide) (ax_fno z (br_f (by decide) H))), fun post H => ay_kok hk (br_t rfl (ay_sno h8 z (br_f (by decide) (H _ _ _ _))))⟩
    · cases e : aq_sb s (aq_P n p) with
      | false => exact ⟨-3, fun post H => ax_kok hk (br_f (by decide) (ax_fout h8 hs e (br_f (by decide) H))), fun post H => ay_kok hk (br_t rfl (ay_sok h8 hs (br_t rfl (ay_part (aq_31 h8 hs) (aq_no e (H _ _ _ _))))))⟩
      | true => exact ⟨aq_i (aq_kd n p h k s), fun post H => ax_kok hk (br_f (by decide) (ax_fok h8 hs e (br_t rfl (ax_kd h8 hk hs (aq_bp rfl H))))), fun post H => ay_kok hk (br_t rfl (ay_sok h8 hs (br_t rfl (ay_part (aq_31 h8 hs) (aq_yes e (ay_tab h8 fun pe ad co re T => ay_kd h8 T hk hs (aq_bp (post := fun r => post r (aq_v n p h pe ad co re)) rfl (H pe ad co re))))))))⟩
theorem a_count (h8 : n ≤ 8) (x : Int32) : aq_both n p h (fun post => wpX_count post (aq_u n p h) x) (fun post => wpY_count post (aq_v n p h pe ad co re) x) := by
  unfold aq_both
  dsimp only
  unfold wpX_count wpY_count aq_u aq_v
  dsimp only
  rcases aq_k x with z | ⟨k, hk, rfl⟩
  · exact ⟨-1, fun post H => ax_kno z (br_t rfl H), fun post H => ay_kno z (br_f (by decide) (H _ _ _ _))⟩
  · exact ⟨aq_cnt (aq_kd n p h k) (2 ^ n) 0 0, fun post H => ax_kok hk (br_f (by decide) ⟨_, ax_cnt h8 hk (2 ^ n) 0 0 (by omega) H⟩), fun post H => ay_kok hk (br_t rfl (ay_tab h8 fun pe ad co re T => ⟨_, ay_cnt h8 T hk (2 ^ n) 0 0 (by omega) (H pe ad co re)⟩))⟩
theorem a_nth (h8 : n ≤ 8) (x y : Int32) : aq_both n p h (fun post => wpX_nth post (aq_u n p h) x y) (fun post => wpY_nth post (aq_v n p h pe ad co re) x y) := by
  unfold aq_both
  dsimp only
  unfold wpX_nth wpY_nth aq_u aq_v
  dsimp only
  rcases aq_k x with z | ⟨k, hk, rfl⟩
  · exact ⟨-1, fun post H => ax_kno z (br_t rfl H), fun post H => ay_kno z (br_f (by decide) (H _ _ _ _))⟩
  · exact ⟨aq_nth (aq_kd n p h k) y (2 ^ n) 0 0, fun post H => ax_kok hk (br_f (by decide) ⟨_, ax_nth h8 hk (2 ^ n) 0 0 (by omega) H⟩), fun post H => ay_kok hk (br_t rfl (ay_tab h8 fun pe ad co re T => ⟨_, ay_nth h8 T hk (2 ^ n) 0 0 (by omega) (H pe ad co re)⟩))⟩
theorem a_core (h8 : n ≤ 8) (x : Int32) : aq_both n p h (fun post => wpX_core post (aq_u n p h) x) (fun post => wpY_core post (aq_v n p h pe ad co re) x) := by
  unfold aq_both
  dsimp only
  unfold wpX_core wpY_core aq_u aq_v
  dsimp only
  rcases aq_k x with z | ⟨k, hk, rfl⟩
  · exact ⟨-1, fun post H => ax_kno z (br_t rfl H), fun post H => ay_kno z (br_f (by decide) (H _ _ _ _))⟩
  · exact ⟨aq_oY (aq_shr (aq_kd n p h k) (2 ^ n) 0 none), fun post H => ax_kok hk (br_f (by decide) ⟨_, ax_core h8 hk (2 ^ n) 0 none (by omega) H⟩), fun post H => ay_kok hk (br_t rfl (ay_tab h8 fun pe ad co re T => ay_shared h8 T hk (H pe ad co re)))⟩
theorem a_possible (h8 : n ≤ 8) (x y : Int32) : aq_both n p h (fun post => wpX_possible post (aq_u n p h) x y) (fun post => wpY_possible post (aq_v n p h pe ad co re) x y) := by
  unfold aq_both
  dsimp only
  unfold wpX_possible wpY_possible aq_u aq_v
  dsimp only
  rcases aq_k x with z | ⟨k, hk, rfl⟩
  · exact ⟨-1, fun post H => ax_kno z (br_t rfl H), fun post H => ay_kno z (br_f (by decide) (H _ _ _ _))⟩
  · rcases aq_c y h8 with z | ⟨c, hc, rfl⟩
    · exact ⟨-2, fun post H => ax_kok hk (br_f (by decide) (ax_bad z (br_t rfl H))), fun post H => ay_kok hk (br_t rfl (ay_bad z (br_f (by decide) (H _ _ _ _))))⟩
    · refine ⟨if aq_any (2 ^ n) (fun t => t.testBit c && aq_kd n p h k t) then 1 else 0, fun post H => ax_kok hk (br_f (by decide) (ax_good h8 hc (br_f (by decide) ?_))), fun post H => ay_kok hk (br_t rfl (ay_good h8 hc (br_t rfl (ay_tab h8 fun pe ad co re T => ?_))))⟩
      · refine aq_scan (W := wX_possible_23 post (nI k) (nI c) (nI n) (nI (2 ^ n)) (nI (aq_P n p)) (aq_t n h)) (2 ^ n) (fun t => t.testBit c && aq_kd n p h k t) rfl (fun K m => br_t (nI_le (Nat.le_refl _) (aq_31e h8)) K) (fun m i hi K1 K2 => br_f (nI_ge hi (aq_31e h8)) (ax_has h8 hi hc (aq_bz (fun z => nm_r (nI_1 i) (K2 ?_)) (fun z => ax_kd h8 hk hi (aq_bz (fun z2 => nm_r (nI_1 i) (K2 ?_)) (fun z2 => K1 ?_)))))) H
        · rw [z, Bool.false_and]
        · rw [z2, Bool.and_false]
        · rw [z, z2, Bool.and_true]
      · refine aq_scan (W := wY_possible_27 post (nI k) (nI c) (nI n) (nI (aq_P n p)) (aq_hs h) pe ad co re) (post := fun r => post r (aq_v n p h pe ad co re)) (2 ^ n) (fun t => t.testBit c && aq_kd n p h k t) rfl (fun K m => aq_end h8 K) (fun m i hi K1 K2 => aq_ge h8 hi (ay_in (aq_31 h8 hi) (by omega) (aq_bz (fun z => nm_r (nI_1 i) (K2 ?_)) (fun z => ay_kd h8 T hk hi (aq_bz (fun z2 => nm_r (nI_1 i) (K2 ?_)) (fun z2 => K1 ?_)))))) (H pe ad co re)
        · rw [z, Bool.false_and]
        · rw [z2, Bool.and_false]
        · rw [z, z2, Bool.and_true]
theorem a_certain (h8 : n ≤ 8) (x y : Int32) : aq_both n p h (fun post => wpX_certain post (aq_u n p h) x y) (fun post => wpY_certain post (aq_v n p h pe ad co re) x y) := by
  unfold aq_both
  dsimp only
  unfold wpX_certain wpY_certain aq_u aq_v
  dsimp only
  rcases aq_k x with z | ⟨k, hk, rfl⟩
  · exact ⟨-1, fun post H => ax_kno z (br_t rfl H), fun post H => ay_kno z (br_f (by decide) (H _ _ _ _))⟩
  · rcases aq_c y h8 with z | ⟨c, hc, rfl⟩
    · exact ⟨-2, fun post H => ax_kok hk (br_f (by decide) (ax_bad z (br_t rfl H))), fun post H => ay_kok hk (br_t rfl (ay_bad z (br_f (by decide) (H _ _ _ _))))⟩
    · refine ⟨if aq_any (2 ^ n) (fun t => !t.testBit c && aq_kd n p h k t) then 0 else 1, fun post H => ax_kok hk (br_f (by decide) (ax_good h8 hc (br_f (by decide) ?_))), fun post H => ay_kok hk (br_t rfl (ay_good h8 hc (br_t rfl (ay_tab h8 fun pe ad co re T => ?_))))⟩
      · refine aq_scan (W := wX_certain_23 post (nI k) (nI c) (nI n) (nI (2 ^ n)) (nI (aq_P n p)) (aq_t n h)) (2 ^ n) (fun t => !t.testBit c && aq_kd n p h k t) rfl (fun K m => br_t (nI_le (Nat.le_refl _) (aq_31e h8)) K) (fun m i hi K1 K2 => br_f (nI_ge hi (aq_31e h8)) (ax_has h8 hi hc (aq_bz (fun z => ax_kd h8 hk hi (aq_bz (fun z2 => nm_r (nI_1 i) (K2 ?_)) (fun z2 => K1 ?_))) (fun z => nm_r (nI_1 i) (K2 ?_))))) H
        · rw [z2, Bool.and_false]
        · rw [z, z2]; rfl
        · rw [z]; rfl
      · refine aq_scan (W := wY_certain_27 post (nI k) (nI c) (nI n) (nI (aq_P n p)) (aq_hs h) pe ad co re) (post := fun r => post r (aq_v n p h pe ad co re)) (2 ^ n) (fun t => !t.testBit c && aq_kd n p h k t) rfl (fun K m => aq_end h8 K) (fun m i hi K1 K2 => aq_ge h8 hi (ay_in (aq_31 h8 hi) (by omega) (aq_bz (fun z => ay_kd h8 T hk hi (aq_bz (fun z2 => nm_r (nI_1 i) (K2 ?_)) (fun z2 => K1 ?_))) (fun z => nm_r (nI_1 i) (K2 ?_))))) (H pe ad co re)
        · rw [z2, Bool.and_false]
        · rw [z, z2]; rfl
        · rw [z]; rfl
/-- the same, for the reference's methods that only read -/
def aq_read (WX WY : (Int32 → Prop) → Prop) : Prop := ∃ r, (∀ post : Int32 → Prop, post r → WX post) ∧ (∀ post : Int32 → Prop, post r → WY post)
theorem a_range (h8 : n ≤ 8) (x : Int32) : aq_read (fun post => wpX_range post (aq_u n p h) x) (fun post => wpY_range post (aq_v n p h pe ad co re) x) := by
  unfold aq_read
  dsimp only
  unfold wpX_range wpY_range aq_u aq_v
  dsimp only
  rcases aq_s x h8 with z | ⟨s, hs, rfl⟩
  · exact ⟨-2, fun post H => ax_fno z (br_f (by decide) H), fun post H => ay_sno h8 z (br_f (by decide) H)⟩
  · cases e : aq_sb s (aq_P n p) with
    | false => exact ⟨-3, fun post H => ax_fout h8 hs e (br_f (by decide) H), fun post H => ay_sok h8 hs (br_t rfl (ay_part (aq_31 h8 hs) (aq_no e (H))))⟩
    | true => exact ⟨nI (s ||| aq_A n p h s), fun post H => ax_fok h8 hs e (br_t rfl (ax_rng h8 hs (by rw [aq_X_A e]; exact H))), fun post H => ay_sok h8 hs (br_t rfl (ay_part (aq_31 h8 hs) (aq_yes e (ay_att h8 hs (by rw [aq_nor]; exact H)))))⟩
theorem a_defended (h8 : n ≤ 8) (x : Int32) : aq_read (fun post => wpX_defended post (aq_u n p h) x) (fun post => wpY_defended post (aq_v n p h pe ad co re) x) := by
  unfold aq_read
  dsimp only
  unfold wpX_defended wpY_defended aq_u aq_v
  dsimp only
  rcases aq_s x h8 with z | ⟨s, hs, rfl⟩
  · exact ⟨-2, fun post H => ax_fno z (br_f (by decide) H), fun post H => ay_sno h8 z (br_f (by decide) H)⟩
  · cases e : aq_sb s (aq_P n p) with
    | false => exact ⟨-3, fun post H => ax_fout h8 hs e (br_f (by decide) H), fun post H => ay_sok h8 hs (br_t rfl (ay_part (aq_31 h8 hs) (aq_no e (H))))⟩
    | true => exact ⟨nI (aq_D n p h s), fun post H => ax_fok h8 hs e (br_t rfl (ax_def h8 hs e H)), fun post H => ay_sok h8 hs (br_t rfl (ay_part (aq_31 h8 hs) (aq_yes e (ay_def h8 hs H))))⟩
end

/-! what all sets of a kind share; the ideal set -/
def aq_cm (o : Option Nat) (i : Nat) : Nat := match o with
  | none => i
  | some m => m &&& i
def aq_shr (f : Nat → Bool) : Nat → Nat → Option Nat → Option Nat
  | 0, _, o => o
  | d + 1, i, o => aq_shr f d (i + 1) (if f i then some (aq_cm o i) else o)
def aq_oX (P : Nat) (o : Option Nat) : Int32 := match o with
  | none => nI P
  | some m => nI m
def aq_oF (o : Option Nat) : Int32 := match o with
  | none => 1
  | some _ => 0
def aq_oY (o : Option Nat) : Int32 := match o with
  | none => -2
  | some m => nI m
theorem aq_oX_st {P i : Nat} (hi : aq_sb i P = true) (o : Option Nat) : aq_oX P o &&& nI i = aq_oX P (some (aq_cm o i)) := by
  cases o with
  | none =>
    show nI P &&& nI i = nI i
    rw [nx_and, Nat.and_comm]
    rw [aq_sb, decide_eq_true_iff] at hi
    rw [hi]
  | some m => exact nx_and m i
theorem aq_sb_and {C m i : Nat} (H : aq_sb C (m &&& i) = true) : aq_sb C m = true ∧ aq_sb C i = true := by
  rw [aq_sb_iff] at H
  constructor
  · refine aq_sb_iff.mpr fun j hj => ?_
    have z := H j hj
    rw [Nat.testBit_and, Bool.and_eq_true] at z
    exact z.1
  · refine aq_sb_iff.mpr fun j hj => ?_
    have z := H j hj
    rw [Nat.testBit_and, Bool.and_eq_true] at z
    exact z.2
theorem aq_shr_some (f : Nat → Bool) : ∀ d i m, ∃ C, aq_shr f d i (some m) = some C ∧ aq_sb C m = true ∧ ∀ t, i ≤ t → t < i + d → f t = true → aq_sb C t = true
  | 0, i, m => ⟨m, rfl, aq_sb_rfl m, fun t h1 h2 => absurd h1 (by omega)⟩
  | d + 1, i, m => by
    cases e : f i with
    | false =>
      obtain ⟨C, h1, h2, h3⟩ := aq_shr_some f d (i + 1) m
      refine ⟨C, by rw [aq_shr, e]; exact h1, h2, fun t h4 h5 h6 => ?_⟩
      by_cases w : t = i
      · rw [w, e] at h6
        exact absurd h6 (by decide)
      · exact h3 t (by omega) (by omega) h6
    | true =>
      obtain ⟨C, h1, h2, h3⟩ := aq_shr_some f d (i + 1) (m &&& i)
      refine ⟨C, by rw [aq_shr, e]; exact h1, (aq_sb_and h2).1, fun t h4 h5 h6 => ?_⟩
      by_cases w : t = i
      · rw [w]
        exact (aq_sb_and h2).2
      · exact h3 t (by omega) (by omega) h6
theorem aq_shr_none (f : Nat → Bool) : ∀ d i, (∃ t, i ≤ t ∧ t < i + d ∧ f t = true) → ∃ C, aq_shr f d i none = some C ∧ ∀ t, i ≤ t → t < i + d → f t = true → aq_sb C t = true
  | 0, i, ⟨t, h1, h2, _⟩ => absurd h1 (by omega)
  | d + 1, i, ⟨t, h1, h2, h3⟩ => by
    cases e : f i with
    | false =>
      have w : t ≠ i := by
        intro w
        rw [w, e] at h3
        exact absurd h3 (by decide)
      obtain ⟨C, h4, h5⟩ := aq_shr_none f d (i + 1) ⟨t, by omega, by omega, h3⟩
      refine ⟨C, by rw [aq_shr, e]; exact h4, fun t h6 h7 h8 => ?_⟩
      by_cases w : t = i
      · rw [w, e] at h8
        exact absurd h8 (by decide)
      · exact h5 t (by omega) (by omega) h8
    | true =>
      obtain ⟨C, h4, h5, h6⟩ := aq_shr_some f d (i + 1) i
      refine ⟨C, by rw [aq_shr, e]; exact h4, fun t h7 h8 h9 => ?_⟩
      by_cases w : t = i
      · rw [w]
        exact h5
      · exact h6 t (by omega) (by omega) h9
section
variable {n : Nat} {p : Nat → Bool} {h : Nat → Nat → Bool} {post : Int32 → Prop} {pe ad co re : Nat → Int32}
theorem aq_pr_P {s : Nat} (z : aq_pr n p h s = true) : aq_sb s (aq_P n p) = true := aq_pf_P (aq_ad_pf (aq_pr_iff.mp z).1)
theorem aq_kd_P {k s : Nat} (hk : k < 6) (z : aq_kd n p h k s = true) : aq_sb s (aq_P n p) = true := by
  match k, hk with
  | 0, _ => exact aq_pf_P (aq_ad_pf z)
  | 1, _ => exact aq_pf_P (aq_co_pf z)
  | 2, _ => exact aq_pr_P z
  | 3, _ =>
    have z : aq_st n p h s = true := z
    rw [aq_st, Bool.and_eq_true] at z
    exact aq_pf_P z.1
  | 4, _ =>
    have z : aq_sg n p h s = true := z
    rw [aq_sg, Bool.and_eq_true] at z
    exact aq_pf_P z.1
  | 5, _ =>
    have z : aq_ss n p h s = true := z
    rw [aq_ss, Bool.and_eq_true] at z
    exact aq_pf_P (aq_co_pf z.1)
  | k + 6, hk => exact absurd hk (by omega)
theorem ax_core {k : Nat} (h8 : n ≤ 8) (hk : k < 6) : ∀ d i o, i + d = 2 ^ n → post (aq_oY (aq_shr (aq_kd n p h k) d i o)) → wX_core_20 post (nI k) (nI n) (nI (2 ^ n)) (nI (aq_P n p)) (aq_t n h) (d + 1) (aq_oX (aq_P n p) o) (aq_oF o) (nI i)
  | 0, i, o, e, H => by
    have z : i = 2 ^ n := by omega
    subst z
    refine br_t (nI_le (Nat.le_refl _) (aq_31e h8)) ?_
    cases o with
    | none => exact br_f (by decide) H
    | some m => exact br_t rfl H
  | d + 1, i, o, e, H => by
    have hi : i < 2 ^ n := by omega
    rw [aq_shr] at H
    refine br_f (nI_ge hi (aq_31e h8)) (ax_kd h8 hk hi (aq_bz (fun z => nm_r (nI_1 i) (ax_core h8 hk d (i + 1) o (by omega) ?_)) (fun z => nm_r (aq_oX_st (aq_kd_P hk z) o) (nm_r (nI_1 i) (ax_core h8 hk d (i + 1) (some (aq_cm o i)) (by omega) ?_)))))
    · rw [z] at H
      exact H
    · rw [z] at H
      exact H
theorem aq_cm_lt {o : Option Nat} {i : Nat} (hi : i < 2 ^ n) : aq_cm o i < 2 ^ n := by
  cases o with
  | none => exact hi
  | some m => exact Nat.lt_of_le_of_lt Nat.and_le_right hi
theorem aq_nm2 {m : Nat} (hm : m < 2 ^ 31) : ¬ nI m = -2 := by
  intro e
  have z := nI_pos hm
  rw [e] at z
  exact absurd z (by decide)
theorem ay_shr {k : Nat} (h8 : n ≤ 8) (T : aq_T n p h (2 ^ n) pe ad co re) (hk : k < 6) : ∀ d i o, i + d = 2 ^ n → (∀ m, o = some m → m < 2 ^ n) → post (aq_oY (aq_shr (aq_kd n p h k) d i o)) → wY_shared_5 post (nI k) (nI n) (nI (aq_P n p)) (aq_hs h) pe ad co re (d + 1) (aq_oY o) (nI i)
  | 0, i, o, e, _, H => by
    have z : i = 2 ^ n := by omega
    subst z
    exact aq_end h8 H
  | d + 1, i, o, e, ho, H => by
    have hi : i < 2 ^ n := by omega
    rw [aq_shr] at H
    refine aq_ge h8 hi (ay_kd h8 T hk hi (aq_bz (fun z => nm_r (nI_1 i) (ay_shr h8 T hk d (i + 1) o (by omega) ho ?_)) (fun z => ?_)))
    · rw [z] at H
      exact H
    · have K := ay_shr h8 T hk d (i + 1) (some (aq_cm o i)) (by omega) (fun m hm => by cases hm; exact aq_cm_lt hi) (by rw [z] at H; exact H)
      cases o with
      | none => exact br_t rfl (nm_r (nI_1 i) K)
      | some m => exact br_f (aq_nm2 (aq_31 h8 (ho m rfl))) (nm_r (nx_and m i) (nm_r (nI_1 i) K))
theorem ay_shared {k : Nat} (h8 : n ≤ 8) (T : aq_T n p h (2 ^ n) pe ad co re) (hk : k < 6) (H : post (aq_oY (aq_shr (aq_kd n p h k) (2 ^ n) 0 none))) : wpY_shared post (aq_v n p h pe ad co re) (nI k) := ⟨_, ay_shr h8 T hk (2 ^ n) 0 none (by omega) (fun m hm => nomatch hm) H⟩
/-! ideal -/
theorem ax_id2 {C m : Nat} (h8 : n ≤ 8) (hm : m < 2 ^ n) (hf : (aq_sb m C && aq_ad n p h m) = true) (hl : ∀ j, m < j → j < 2 ^ n → (aq_sb j C && aq_ad n p h j) = false) (H : post (nI m)) : ∀ d i x, i + d = 2 ^ n → (m < i → x = nI m) → wX_ideal_37 post (nI C) (nI n) (nI (2 ^ n)) (nI (aq_P n p)) (aq_t n h) (d + 1) x (nI i)
  | 0, i, x, e, hx => by
    have z : i = 2 ^ n := by omega
    subst z
    refine br_t (nI_le (Nat.le_refl _) (aq_31e h8)) ?_
    rw [hx hm]
    exact H
  | d + 1, i, x, e, hx => by
    have hi : i < 2 ^ n := by omega
    have ke : (aq_sb i C && aq_ad n p h i) = false → m < i + 1 → x = nI m := by
      intro w w2
      refine hx ?_
      rcases Nat.lt_or_ge m i with y | y
      · exact y
      · have e2 : i = m := by omega
        rw [e2, hf] at w
        exact absurd w (by decide)
    refine br_f (nI_ge hi (aq_31e h8)) (ax_part (aq_31 h8 hi) (aq_bz (fun z => nm_r (nI_1 i) (ax_id2 h8 hm hf hl H d (i + 1) x (by omega) (ke ?_))) (fun z => ax_ad h8 hi (aq_bz (fun z2 => nm_r (nI_1 i) (ax_id2 h8 hm hf hl H d (i + 1) x (by omega) (ke ?_))) (fun z2 => nm_r (nI_1 i) (ax_id2 h8 hm hf hl H d (i + 1) (nI i) (by omega) fun w => ?_))))))
    · rw [z, Bool.false_and]
    · rw [z2, Bool.and_false]
    · rcases Nat.lt_or_ge m i with y | y
      · have q := hl i y hi
        rw [z, z2] at q
        exact absurd q (by decide)
      · rw [show i = m by omega]
theorem ax_id1 {C m : Nat} (h8 : n ≤ 8) (hm : m < 2 ^ n) (hf : (aq_sb m C && aq_ad n p h m) = true) (hl : ∀ j, m < j → j < 2 ^ n → (aq_sb j C && aq_ad n p h j) = false) (H : post (nI m)) : ∀ d i o, i + d = 2 ^ n → aq_shr (aq_pr n p h) d i o = some C → wX_ideal_7 post (nI n) (nI (2 ^ n)) (nI (aq_P n p)) (aq_t n h) (d + 1) (aq_oX (aq_P n p) o) (nI i)
  | 0, i, o, e, hC => by
    have z : i = 2 ^ n := by omega
    subst z
    have ho : o = some C := hC
    subst ho
    exact br_t (nI_le (Nat.le_refl _) (aq_31e h8)) ⟨_, ax_id2 h8 hm hf hl H (2 ^ n) 0 0 (by omega) fun w => absurd w (by omega)⟩
  | d + 1, i, o, e, hC => by
    have hi : i < 2 ^ n := by omega
    rw [aq_shr] at hC
    refine br_f (nI_ge hi (aq_31e h8)) (ax_pr h8 hi (aq_bz (fun z => nm_r (nI_1 i) (ax_id1 h8 hm hf hl H d (i + 1) o (by omega) ?_)) (fun z => nm_r (aq_oX_st (aq_pr_P z) o) (nm_r (nI_1 i) (ax_id1 h8 hm hf hl H d (i + 1) (some (aq_cm o i)) (by omega) ?_)))))
    · rw [z] at hC
      exact hC
    · rw [z] at hC
      exact hC
theorem ay_over {post : Int32 → SY → Prop} {J : Int32 → Prop} {C m : Nat} (h8 : n ≤ 8) (T : aq_T n p h (2 ^ n) pe ad co re) (hall : ∀ t, t < 2 ^ n → aq_ad n p h t = true → aq_sb t C = true → aq_sb t m = true) (H : post (nI m) (aq_v n p h pe ad co re)) : ∃ f, wY_ideal_53 post J (nI C) (nI m) (nI n) (nI (aq_P n p)) (aq_hs h) pe ad co re f 1 0 := by
  refine aq_up (W := wY_ideal_53 post J (nI C) (nI m) (nI n) (nI (aq_P n p)) (aq_hs h) pe ad co re) (2 ^ n) (fun _ => 1) rfl rfl (fun f => aq_end h8 (br_f (by decide) H)) (fun f i hi K => aq_ge h8 hi (aq_lim h8 hi ⟨aq_in h8 hi, aq_bx (aq_T_ad h8 T hi) (fun z => nm_r (nI_1 i) K) (fun z => ay_part (aq_31 h8 hi) (aq_bz (fun z2 => nm_r (nI_1 i) K) (fun z2 => ay_part (aq_31 h8 hi) (aq_bz (fun z3 => ?_) (fun z3 => nm_r (nI_1 i) K)))))⟩))
  rw [hall i hi z z2] at z3
  exact absurd z3 (by decide)
theorem ay_id {post : Int32 → SY → Prop} {C m : Nat} (h8 : n ≤ 8) (T : aq_T n p h (2 ^ n) pe ad co re) (hf : (aq_sb m C && aq_ad n p h m) = true) (hl : ∀ j, m < j → j < 2 ^ n → (aq_sb j C && aq_ad n p h j) = false) (hall : ∀ t, t < 2 ^ n → aq_ad n p h t = true → aq_sb t C = true → aq_sb t m = true) (H : post (nI m) (aq_v n p h pe ad co re)) : ∀ d, m + d < 2 ^ n → wY_ideal_19 post (nI C) (nI n) (nI (aq_P n p)) (aq_hs h) pe ad co re (d + 1) (nI (m + d))
  | 0, hi => by
    rw [Bool.and_eq_true] at hf
    have hi : m < 2 ^ n := hi
    refine br_f (nI_pos (aq_31 h8 hi)) (aq_lim h8 hi ⟨aq_in h8 hi, aq_bx (aq_T_ad h8 T hi) (fun z => ?_) (fun z => ay_part (aq_31 h8 hi) (aq_bz (fun z2 => ?_) (fun z2 => ay_over h8 T hall H)))⟩)
    · rw [Nat.add_zero, hf.2] at z
      exact absurd z (by decide)
    · rw [Nat.add_zero, hf.1] at z2
      exact absurd z2 (by decide)
  | d + 1, hi => by
    have q := hl (m + (d + 1)) (by omega) hi
    have K := ay_id (post := post) h8 T hf hl hall H d (by omega)
    refine br_f (nI_pos (aq_31 h8 hi)) (aq_lim h8 hi ⟨aq_in h8 hi, aq_bx (aq_T_ad h8 T hi) (fun z => nm_r (pk_m1 (m + d)) K) (fun z => ay_part (aq_31 h8 hi) (aq_bz (fun z2 => nm_r (pk_m1 (m + d)) K) (fun z2 => ?_)))⟩)
    rw [z, z2] at q
    exact absurd q (by decide)
theorem a_ideal (h8 : n ≤ 8) (pe ad co re : Nat → Int32) : ∃ r, (∀ post : Int32 → Prop, post r → wpX_ideal post (aq_u n p h)) ∧ (∀ post : Int32 → SY → Prop, (∀ pe ad co re, post r (aq_v n p h pe ad co re)) → wpY_ideal post (aq_v n p h pe ad co re)) := by
  obtain ⟨q, hq, hp⟩ := aq_pr_ex (n := n) (p := p) (h := h)
  obtain ⟨C, hC, hCt⟩ := aq_shr_none (aq_pr n p h) (2 ^ n) 0 ⟨q, by omega, by omega, hp⟩
  have hCt : ∀ t, t < 2 ^ n → aq_pr n p h t = true → aq_sb C t = true := fun t ht => hCt t (by omega) (by omega)
  obtain ⟨m, hm, hf, hl⟩ := aq_last (fun j => aq_sb j C && aq_ad n p h j) (2 ^ n) ⟨0, Nat.two_pow_pos n, by rw [aq_ad0, Bool.and_true]; exact aq_sb_iff.mpr fun i hi => by rw [Nat.zero_testBit] at hi; exact absurd hi (by decide)⟩
  have hf2 := hf
  rw [Bool.and_eq_true] at hf2
  have hall : ∀ t, t < 2 ^ n → aq_ad n p h t = true → aq_sb t C = true → aq_sb t m = true := fun t ht h1 h2 => aq_ideal hCt hm hf2.2 hf2.1 hl ht h1 h2
  refine ⟨nI m, fun post H => ?_, fun post H => ?_⟩
  · unfold wpX_ideal aq_u
    dsimp only
    exact ⟨_, ax_id1 h8 hm hf hl H (2 ^ n) 0 none (by omega) hC⟩
  · unfold wpY_ideal aq_v
    dsimp only
    refine ay_tab h8 fun pe ad co re T => ?_
    refine ay_shared (k := 2) h8 T (by decide) ?_
    rw [show aq_kd n p h 2 = aq_pr n p h from rfl, hC]
    refine nm_r (e' := nI (m + (2 ^ n - 1 - m))) ?_ ⟨_, ay_id h8 T hf hl hall (H pe ad co re) (2 ^ n - 1 - m) (by omega)⟩
    rw [aq_pow (by omega), show m + (2 ^ n - 1 - m) = 2 ^ n - 1 by omega]
    exact pk_sub (b := 1) (Nat.two_pow_pos n)
end

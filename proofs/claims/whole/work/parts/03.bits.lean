/-! numbers as sets of bits in Int32 -/
theorem aq_bt (s : Nat) {i : Nat} (hi : i < 32) : bt (nI s) i = s.testBit i := by
  show (BitVec.ofNat 32 s).getLsbD i = _
  rw [BitVec.getLsbD_ofNat, decide_eq_true hi, Bool.true_and]
theorem aq_nor (a b : Nat) : nI a ||| nI b = nI (a ||| b) := b_ext fun i hi => by rw [b_or, aq_bt _ hi, aq_bt _ hi, aq_bt _ hi, Nat.testBit_or]
/-- a without b -/
def aq_df (a b : Nat) : Nat := a ^^^ (a &&& b)
theorem aq_df_tb (a b i : Nat) : (aq_df a b).testBit i = (a.testBit i && !b.testBit i) := by
  rw [aq_df, Nat.testBit_xor, Nat.testBit_and]
  cases a.testBit i <;> cases b.testBit i <;> rfl
theorem aq_df_lt {k a : Nat} (h : a < 2 ^ k) (b : Nat) : aq_df a b < 2 ^ k := Nat.xor_lt_two_pow h (Nat.lt_of_le_of_lt Nat.and_le_left h)
theorem aq_df_or (a b c : Nat) : aq_df (aq_df a b) c = aq_df a (b ||| c) := by
  apply Nat.eq_of_testBit_eq
  intro i
  rw [aq_df_tb, aq_df_tb, aq_df_tb, Nat.testBit_or]
  cases a.testBit i <;> cases b.testBit i <;> cases c.testBit i <;> rfl
theorem aq_ndf (a b : Nat) : nI a &&& (nI b ^^^ (-1)) = nI (aq_df a b) := b_ext fun i hi => by
  rw [b_and, b_xor, b_m1 i hi, aq_bt _ hi, aq_bt _ hi, aq_bt _ hi, aq_df_tb, Bool.xor_true]
theorem aq_df0 {a b : Nat} : aq_df a b = 0 ↔ a &&& b = a := by
  constructor
  · intro e
    apply Nat.eq_of_testBit_eq
    intro i
    have z : (aq_df a b).testBit i = false := by rw [e, Nat.zero_testBit]
    rw [aq_df_tb] at z
    rw [Nat.testBit_and]
    revert z
    cases a.testBit i <;> cases b.testBit i <;> simp
  · intro e
    rw [aq_df, e, Nat.xor_self]
/-- a flag as an int -/
def aq_i (b : Bool) : Int32 := if b then 1 else 0
theorem aq_one {s c : Nat} (hs : s < 2 ^ 31) (hc : c < 32) : (nI s >>> (nI c &&& 31)) &&& 1 = aq_i (s.testBit c) := by
  rw [pk_shrN hs _ c (s_l c hc)]
  show nI (s / 2 ^ c) &&& nI 1 = _
  rw [nx_and, Nat.and_one_is_mod, Nat.testBit_eq_decide_div_mod_eq, aq_i]
  generalize s / 2 ^ c = z
  rcases Nat.mod_two_eq_zero_or_one z with e | e <;> rw [e] <;> rfl
theorem aq_pow {c : Nat} (hc : c < 32) : (1 : Int32) <<< (nI c &&& 31) = nI (2 ^ c) := by
  have z : 1 * 2 ^ c < 2 ^ 32 := by rw [Nat.one_mul]; exact Nat.pow_lt_pow_right (by decide) hc
  have e := pk_shlN (n := 1) (nI c &&& 31) c (s_l c hc) z
  rw [Nat.one_mul] at e
  exact e
theorem aq_z {k : Nat} (hk : k < 2 ^ 31) : nI k = 0 ↔ k = 0 := nI_eq (b := 0) hk (by decide)
theorem aq_sub0 {s t : Nat} (hs : s < 2 ^ 31) : nI s &&& (nI t ^^^ (-1)) = 0 ↔ aq_sb s t = true := by
  rw [aq_ndf, aq_z (aq_df_lt hs t), aq_df0, aq_sb, decide_eq_true_iff]
theorem aq_sub1 {s t : Nat} (hs : s < 2 ^ 31) : nI s &&& nI t = nI s ↔ aq_sb s t = true := by
  rw [nx_and, nI_eq (Nat.lt_of_le_of_lt Nat.and_le_left hs) hs, aq_sb, decide_eq_true_iff]
theorem aq_nar (b : Bool) : narrow .boolean (.int (aq_i b)) = .int (aq_i b) := by cases b <;> rfl
theorem aq_vnar (b : Bool) : vp_nar .boolean (aq_i b) = aq_i b := by cases b <;> rfl
/-! branches on flags -/
theorem aq_bz {b : Bool} {A B : Prop} (f : b = false → A) (g : b = true → B) : (aq_i b = 0 → A) ∧ (¬ aq_i b = 0 → B) := by
  cases b with
  | false => exact ⟨fun _ => f rfl, fun z => absurd rfl z⟩
  | true => exact ⟨fun z => absurd z (by decide), fun _ => g rfl⟩
theorem aq_bx {x : Int32} {b : Bool} {A B : Prop} (e : x = aq_i b) (f : b = false → A) (g : b = true → B) : (x = 0 → A) ∧ (¬ x = 0 → B) := by
  subst e
  exact aq_bz f g
theorem aq_bp {post : Int32 → Prop} {x : Int32} {b : Bool} (e : x = aq_i b) (H : post (aq_i b)) : (x = 0 → post 0) ∧ (¬ x = 0 → post 1) := aq_bx e (fun z => by subst z; exact H) (fun z => by subst z; exact H)
theorem aq_bp1 {post : Int32 → Prop} {x : Int32} {b : Bool} (e : x = aq_i b) (H : post (aq_i b)) : (x = 1 → post 1) ∧ (¬ x = 1 → post 0) := by
  subst e
  cases b with
  | false => exact ⟨fun z => absurd z (by decide), fun _ => H⟩
  | true => exact ⟨fun _ => H, fun z => absurd rfl z⟩
theorem aq_bc {c : Prop} {post : Int32 → Prop} {b : Bool} (e : c ↔ b = true) (H : post (aq_i b)) : (c → post 1) ∧ (¬ c → post 0) := by
  cases b with
  | false => exact ⟨fun z => absurd (e.mp z) (by decide), fun _ => H⟩
  | true => exact ⟨fun _ => H, fun z => absurd (e.mpr rfl) z⟩
theorem aq_if {c : Prop} {b : Bool} {A B : Prop} (e : c ↔ b = true) (f : b = true → A) (g : b = false → B) : (c → A) ∧ (¬ c → B) := by
  cases b with
  | false => exact ⟨fun z => absurd (e.mp z) (by decide), fun _ => g rfl⟩
  | true => exact ⟨fun _ => f rfl, fun z => absurd (e.mpr rfl) z⟩
theorem aq_pt {post : Int32 → Prop} {b : Bool} (H : post (aq_i b)) (z : b = true) : post 1 := by subst z; exact H
theorem aq_pz {post : Int32 → Prop} {b : Bool} (H : post (aq_i b)) (z : b = false) : post 0 := by subst z; exact H
/-! bounds -/
theorem aq_256 {n : Nat} (h8 : n ≤ 8) : 2 ^ n ≤ 256 := Nat.pow_le_pow_right (n := 2) (by decide) h8
theorem aq_31 {n s : Nat} (h8 : n ≤ 8) (hs : s < 2 ^ n) : s < 2 ^ 31 := by
  have := aq_256 h8
  omega
theorem aq_31e {n : Nat} (h8 : n ≤ 8) : 2 ^ n < 2 ^ 31 := by
  have := aq_256 h8
  omega
theorem aq_ge {n i : Nat} {A B : Prop} (h8 : n ≤ 8) (hi : i < 2 ^ n) (H : B) : (((1 : Int32) <<< (nI n &&& 31)) ≤ nI i → A) ∧ (¬ ((1 : Int32) <<< (nI n &&& 31)) ≤ nI i → B) := by
  rw [aq_pow (by omega)]
  exact br_f (nI_ge hi (aq_31e h8)) H
theorem aq_end {n : Nat} {A B : Prop} (h8 : n ≤ 8) (H : A) : (((1 : Int32) <<< (nI n &&& 31)) ≤ nI (2 ^ n) → A) ∧ (¬ ((1 : Int32) <<< (nI n &&& 31)) ≤ nI (2 ^ n) → B) := by
  rw [aq_pow (by omega)]
  exact br_t (nI_le (Nat.le_refl _) (aq_31e h8)) H
theorem aq_lim {n i : Nat} {A B : Prop} (h8 : n ≤ 8) (hi : i < 2 ^ n) (H : B) : (256 ≤ nI i → A) ∧ (¬ 256 ≤ nI i → B) := br_f (nI_ge (b := 256) (Nat.lt_of_lt_of_le hi (aq_256 h8)) (by decide)) H
theorem aq_in {n i : Nat} (h8 : n ≤ 8) (hi : i < 2 ^ n) : vp_in (nI i) 256 := vp_in_nI (Nat.lt_of_lt_of_le hi (aq_256 h8)) (by decide)
/-! loops -/
theorem aq_up1 {W : Nat → Int32 → Int32 → Prop} (N : Nat) (acc : Nat → Int32) (hN : ∀ m, W (m + 1) (acc N) (nI N)) (hs : ∀ m i, i < N → W m (acc (i + 1)) (nI (i + 1)) → W (m + 1) (acc i) (nI i)) : ∀ d i, i + d = N → W (d + 1) (acc i) (nI i)
  | 0, i, e => by
    have z : i = N := by omega
    subst z
    exact hN 0
  | d + 1, i, e => hs (d + 1) i (by omega) (aq_up1 N acc hN hs d (i + 1) (by omega))
theorem aq_up {W : Nat → Int32 → Int32 → Prop} {x y : Int32} (N : Nat) (acc : Nat → Int32) (hx : x = acc 0) (hy : y = nI 0) (hN : ∀ m, W (m + 1) (acc N) (nI N)) (hs : ∀ m i, i < N → W m (acc (i + 1)) (nI (i + 1)) → W (m + 1) (acc i) (nI i)) : ∃ m, W m x y := by
  subst hx hy
  exact ⟨N + 1, aq_up1 N acc hN hs N 0 (by omega)⟩
theorem aq_scan1 {W : Nat → Int32 → Prop} {post : Int32 → Prop} {r0 r1 : Int32} (N : Nat) (f : Nat → Bool) (hN : post r1 → ∀ m, W (m + 1) (nI N)) (hs : ∀ m i, i < N → (f i = true → post r0) → (f i = false → W m (nI (i + 1))) → W (m + 1) (nI i)) (H : post (if aq_any N f then r0 else r1)) : ∀ d i, i + d = N → (∀ j, j < i → f j = false) → W (d + 1) (nI i)
  | 0, i, e, K => by
    have z : i = N := by omega
    subst z
    rw [aq_any_no.mpr K] at H
    exact hN H 0
  | d + 1, i, e, K => by
    refine hs (d + 1) i (by omega) (fun z => ?_) (fun z => aq_scan1 N f hN hs H d (i + 1) (by omega) fun j hj => ?_)
    · rw [(aq_any_iff f N).mpr ⟨i, by omega, z⟩] at H
      exact H
    · rcases Nat.lt_or_ge j i with w | w
      · exact K j w
      · have e2 : j = i := by omega
        rw [e2]
        exact z
theorem aq_scan {W : Nat → Int32 → Prop} {post : Int32 → Prop} {r0 r1 y : Int32} (N : Nat) (f : Nat → Bool) (hy : y = nI 0) (hN : post r1 → ∀ m, W (m + 1) (nI N)) (hs : ∀ m i, i < N → (f i = true → post r0) → (f i = false → W m (nI (i + 1))) → W (m + 1) (nI i)) (H : post (if aq_any N f then r0 else r1)) : ∃ m, W m y := by
  subst hy
  exact ⟨N + 1, aq_scan1 N f hN hs H N 0 (by omega) fun j hj => absurd hj (by omega)⟩
/-! more of aq_mk -/
theorem aq_mk_or (n : Nat) (f g : Nat → Bool) : aq_mk n f ||| aq_mk n g = aq_mk n fun b => f b || g b := by
  apply Nat.eq_of_testBit_eq
  intro i
  rw [Nat.testBit_or, aq_mk_tb, aq_mk_tb, aq_mk_tb]
  cases decide (i < n) <;> cases f i <;> cases g i <;> rfl
theorem aq_mk_ext {n : Nat} {f g : Nat → Bool} (H : ∀ b, b < n → f b = g b) : aq_mk n f = aq_mk n g := by
  apply Nat.eq_of_testBit_eq
  intro i
  rw [aq_mk_tb, aq_mk_tb]
  by_cases z : i < n
  · rw [H i z]
  · rw [decide_eq_false z, Bool.false_and, Bool.false_and]
theorem aq_mk_0 (n : Nat) : (aq_mk n fun _ => false) = 0 := by
  apply Nat.eq_of_testBit_eq
  intro i
  rw [aq_mk_tb, Nat.zero_testBit, Bool.and_false]
theorem aq_mk_f {f : Nat → Bool} {i : Nat} (z : f i = false) : aq_mk (i + 1) f = aq_mk i f := by
  rw [aq_mk, z]
  exact Nat.or_zero _
theorem aq_mk_t {f : Nat → Bool} {i : Nat} (z : f i = true) : aq_mk (i + 1) f = aq_mk i f ||| 2 ^ i := by
  rw [aq_mk, z]
  rfl
section
variable {n : Nat} {p : Nat → Bool} {h : Nat → Nat → Bool}
theorem aq_Pt {a : Nat} (ha : a < n) : (aq_P n p).testBit a = p a := by rw [aq_P, aq_mk_tb, decide_eq_true ha, Bool.true_and]
/-- what the component's attackedBy answers -/
def aq_X (n : Nat) (p : Nat → Bool) (h : Nat → Nat → Bool) (s : Nat) : Nat := aq_mk n fun b => p b && aq_any n fun a => s.testBit a && h a b
def aq_acc (n : Nat) (h : Nat → Nat → Bool) (s i : Nat) : Nat := aq_mk n fun b => aq_any i fun a => s.testBit a && h a b
theorem aq_X_lt (s : Nat) : aq_X n p h s < 2 ^ n := aq_mk_lt _ _
theorem aq_X_iff {s b : Nat} : (aq_X n p h s).testBit b = true ↔ b < n ∧ p b = true ∧ ∃ a, a < n ∧ s.testBit a = true ∧ h a b = true := by
  rw [aq_X, aq_mk_iff, Bool.and_eq_true, aq_any_iff]
  simp only [Bool.and_eq_true]
theorem aq_acc_0 (s : Nat) : aq_acc n h s 0 = 0 := aq_mk_0 n
theorem aq_acc_t {s i : Nat} (z : s.testBit i = true) : aq_acc n h s i ||| aq_mk n (h i) = aq_acc n h s (i + 1) := by
  unfold aq_acc
  rw [aq_mk_or]
  refine aq_mk_ext fun b _ => ?_
  show (_ || h i b) = (aq_any i _ || (s.testBit i && h i b))
  rw [z, Bool.true_and]
theorem aq_acc_f {s i : Nat} (z : s.testBit i = false) : aq_acc n h s (i + 1) = aq_acc n h s i := by
  unfold aq_acc
  refine aq_mk_ext fun b _ => ?_
  show (aq_any i _ || (s.testBit i && h i b)) = _
  rw [z, Bool.false_and, Bool.or_false]
theorem aq_acc_n (s : Nat) : aq_acc n h s n &&& aq_P n p = aq_X n p h s := by
  unfold aq_acc aq_P aq_X
  apply Nat.eq_of_testBit_eq
  intro i
  rw [Nat.testBit_and, aq_mk_tb, aq_mk_tb, aq_mk_tb]
  generalize aq_any n (fun a => s.testBit a && h a i) = z
  cases decide (i < n) <;> cases p i <;> cases z <;> rfl
theorem aq_X_A {s : Nat} (hs : aq_sb s (aq_P n p) = true) : aq_X n p h s = aq_A n p h s := by
  refine aq_mk_ext fun b hb => ?_
  rw [Bool.eq_iff_iff, Bool.and_eq_true, aq_any_iff, aq_any_iff]
  simp only [Bool.and_eq_true, aq_r_iff]
  constructor
  · rintro ⟨h1, a, ha, h2, h3⟩
    exact ⟨a, ha, h2, (aq_P_iff.mp (aq_sb_iff.mp hs a h2)).2, h1, h3⟩
  · rintro ⟨a, ha, h2, h3, h4, h5⟩
    exact ⟨h4, a, ha, h2, h5⟩
theorem aq_D_eq {s : Nat} (hs : aq_sb s (aq_P n p) = true) : aq_df (aq_P n p) (aq_X n p h (aq_df (aq_P n p) (aq_X n p h s))) = aq_D n p h s := by
  rw [aq_X_A hs]
  apply Nat.eq_of_testBit_eq
  intro b
  rw [Bool.eq_iff_iff, aq_df_tb, Bool.and_eq_true, Bool.not_eq_true', aq_D_iff, aq_P_iff]
  constructor
  · rintro ⟨⟨h1, h2⟩, h3⟩
    refine ⟨h1, h2, fun a ha hr => ?_⟩
    cases e : (aq_A n p h s).testBit a with
    | true => rfl
    | false =>
      have z : (aq_X n p h (aq_df (aq_P n p) (aq_A n p h s))).testBit b = true := aq_X_iff.mpr ⟨h1, h2, a, ha, by rw [aq_df_tb, e, aq_P_iff.mpr ⟨ha, (aq_r_iff.mp hr).1⟩]; rfl, (aq_r_iff.mp hr).2.2⟩
      rw [h3] at z
      exact absurd z (by decide)
  · rintro ⟨h1, h2, h3⟩
    refine ⟨⟨h1, h2⟩, ?_⟩
    cases e : (aq_X n p h (aq_df (aq_P n p) (aq_A n p h s))).testBit b with
    | false => rfl
    | true =>
      obtain ⟨_, _, a, ha, h4, h5⟩ := aq_X_iff.mp e
      rw [aq_df_tb, Bool.and_eq_true, Bool.not_eq_true'] at h4
      rw [h3 a ha (aq_r_iff.mpr ⟨(aq_P_iff.mp h4.1).2, h2, h5⟩)] at h4
      exact absurd h4.2 (by decide)
theorem aq_D_P (s : Nat) : aq_sb (aq_D n p h s) (aq_P n p) = true := aq_sb_iff.mpr fun i hi => by
  obtain ⟨h1, h2, _⟩ := aq_D_iff.mp hi
  exact aq_P_iff.mpr ⟨h1, h2⟩
theorem aq_pf_P {s : Nat} (z : aq_pf n p h s = true) : aq_sb s (aq_P n p) = true := by
  rw [aq_pf, Bool.and_eq_true] at z
  exact z.1
theorem aq_ad_pf {s : Nat} (z : aq_ad n p h s = true) : aq_pf n p h s = true := (aq_ad_iff.mp z).1
theorem aq_co_pf {s : Nat} (z : aq_co n p h s = true) : aq_pf n p h s = true := aq_ad_pf (aq_co_iff.mp z).1
theorem aq_co_eq {s : Nat} (z : aq_pf n p h s = true) : aq_co n p h s = decide (s = aq_D n p h s) := by
  rw [aq_co, aq_ad, z, Bool.true_and, Bool.eq_iff_iff, Bool.and_eq_true, decide_eq_true_iff]
  constructor
  · rintro ⟨h1, h2⟩
    exact aq_sb_anti h1 h2
  · intro e
    rw [← e]
    exact ⟨aq_sb_rfl s, aq_sb_rfl s⟩
end

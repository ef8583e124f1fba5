section
/-! the pure picture. n claims, p i: claim i is in play, h a b: a attacks b. A set is a number below 2^n -/
def aq_any : Nat → (Nat → Bool) → Bool
  | 0, _ => false
  | k + 1, f => aq_any k f || f k
theorem aq_any_iff (f : Nat → Bool) : ∀ k, aq_any k f = true ↔ ∃ i, i < k ∧ f i = true
  | 0 => by simp [aq_any]
  | k + 1 => by
    rw [aq_any, Bool.or_eq_true, aq_any_iff f k]
    constructor
    · rintro (⟨i, hi, hf⟩ | hf)
      · exact ⟨i, by omega, hf⟩
      · exact ⟨k, by omega, hf⟩
    · rintro ⟨i, hi, hf⟩
      rcases Nat.lt_or_ge i k with z | z
      · exact Or.inl ⟨i, z, hf⟩
      · have e : i = k := by omega
        subst e; exact Or.inr hf
theorem aq_any_no {f : Nat → Bool} {k : Nat} : aq_any k f = false ↔ ∀ i, i < k → f i = false := by
  rw [← Bool.not_eq_true, aq_any_iff]
  constructor
  · intro H i hi
    cases e : f i with
    | false => rfl
    | true => exact absurd ⟨i, hi, e⟩ H
  · rintro H ⟨i, hi, e⟩
    rw [H i hi] at e; exact absurd e (by decide)
theorem aq_any_congr {f g : Nat → Bool} : ∀ {k : Nat}, (∀ i, i < k → f i = g i) → aq_any k f = aq_any k g
  | 0, _ => rfl
  | k + 1, H => by rw [aq_any, aq_any, aq_any_congr (k := k) fun i hi => H i (by omega), H k (by omega)]
def aq_mk : Nat → (Nat → Bool) → Nat
  | 0, _ => 0
  | k + 1, f => aq_mk k f ||| (if f k then 2 ^ k else 0)
theorem aq_mk_lt (f : Nat → Bool) : ∀ k, aq_mk k f < 2 ^ k
  | 0 => by simp [aq_mk]
  | k + 1 => by
    have h := aq_mk_lt f k
    have h2 : 2 ^ k < 2 ^ (k + 1) := Nat.pow_lt_pow_right (by decide) (by omega)
    rw [aq_mk]
    refine Nat.or_lt_two_pow (by omega) ?_
    split
    · exact h2
    · exact Nat.two_pow_pos _
theorem aq_mk_tb (f : Nat → Bool) (i : Nat) : ∀ k, (aq_mk k f).testBit i = (decide (i < k) && f i)
  | 0 => by simp [aq_mk]
  | k + 1 => by
    rw [aq_mk, Nat.testBit_or, aq_mk_tb f i k]
    by_cases e : i = k
    · subst e
      cases hf : f i <;> simp
    · have e1 : decide (i < k + 1) = decide (i < k) := decide_eq_decide.mpr (by omega)
      have e2 : (if f k then 2 ^ k else 0).testBit i = false := by
        split
        · rw [Nat.testBit_two_pow]; exact decide_eq_false (by omega)
        · exact Nat.zero_testBit i
      rw [e1, e2, Bool.or_false]
theorem aq_mk_iff {f : Nat → Bool} {k i : Nat} : (aq_mk k f).testBit i = true ↔ i < k ∧ f i = true := by
  rw [aq_mk_tb, Bool.and_eq_true, decide_eq_true_iff]
theorem aq_hi {n s i : Nat} (hs : s < 2 ^ n) (hi : s.testBit i = true) : i < n := by
  rcases Nat.lt_or_ge i n with z | z
  · exact z
  · have hp : 2 ^ n ≤ 2 ^ i := Nat.pow_le_pow_right (by decide) z
    rw [Nat.testBit_lt_two_pow (show s < 2 ^ i by omega)] at hi
    exact absurd hi (by decide)
/-- s is part of t -/
def aq_sb (s t : Nat) : Bool := decide (s &&& t = s)
theorem aq_sb_iff {s t : Nat} : aq_sb s t = true ↔ ∀ i, s.testBit i = true → t.testBit i = true := by
  rw [aq_sb, decide_eq_true_iff]
  constructor
  · intro e i hi
    rw [← e, Nat.testBit_and, Bool.and_eq_true] at hi
    exact hi.2
  · intro H
    apply Nat.eq_of_testBit_eq
    intro i
    rw [Nat.testBit_and]
    cases e : s.testBit i with
    | false => rfl
    | true => rw [H i e]; rfl
theorem aq_sb_anti {s t : Nat} (h1 : aq_sb s t = true) (h2 : aq_sb t s = true) : s = t := by
  rw [aq_sb_iff] at h1 h2
  apply Nat.eq_of_testBit_eq
  intro i
  cases e : s.testBit i with
  | true => exact (h1 i e).symm
  | false =>
    cases e2 : t.testBit i with
    | false => rfl
    | true => rw [h2 i e2] at e; exact absurd e (by decide)
theorem aq_sb_rfl (s : Nat) : aq_sb s s = true := aq_sb_iff.mpr fun _ h => h
theorem aq_sb_le {s t : Nat} (h : aq_sb s t = true) : s ≤ t := by
  rw [aq_sb, decide_eq_true_iff] at h
  rw [← h]; exact Nat.and_le_right
/-- s is a proper part of t -/
def aq_pp (s t : Nat) : Bool := decide (s ≠ t) && aq_sb s t
/-- how many bits below k -/
def aq_cd : Nat → Nat → Nat
  | 0, _ => 0
  | k + 1, s => aq_cd k s + (if s.testBit k then 1 else 0)
theorem aq_cd_le (s : Nat) : ∀ k, aq_cd k s ≤ k
  | 0 => Nat.le_refl 0
  | k + 1 => by have h := aq_cd_le s k; rw [aq_cd]; split <;> omega
theorem aq_cd_mono {s t : Nat} (H : ∀ i, s.testBit i = true → t.testBit i = true) : ∀ k, aq_cd k s ≤ aq_cd k t
  | 0 => Nat.le_refl 0
  | k + 1 => by
    have h := aq_cd_mono H k
    rw [aq_cd, aq_cd]
    by_cases e : s.testBit k = true
    · rw [if_pos e, if_pos (H k e)]; omega
    · rw [if_neg e]; omega
theorem aq_cd_lt {s t i : Nat} (H : ∀ i, s.testBit i = true → t.testBit i = true) (hs : s.testBit i = false) (ht : t.testBit i = true) : ∀ k, i < k → aq_cd k s < aq_cd k t
  | 0, z => absurd z (by omega)
  | k + 1, z => by
    rw [aq_cd, aq_cd]
    by_cases e : i = k
    · subst e
      have h := aq_cd_mono H i
      rw [if_pos ht, hs]; simp; omega
    · have h := aq_cd_lt H hs ht k (by omega)
      by_cases e : s.testBit k = true
      · rw [if_pos e, if_pos (H k e)]; omega
      · rw [if_neg e]; omega
section
variable (n : Nat) (p : Nat → Bool) (h : Nat → Nat → Bool)
/-- the claims in play -/
def aq_P : Nat := aq_mk n p
/-- a attacks b, both in play -/
def aq_r (a b : Nat) : Bool := p a && p b && h a b
/-- what s attacks -/
def aq_A (s : Nat) : Nat := aq_mk n fun b => aq_any n fun a => s.testBit a && aq_r p h a b
/-- what s defends -/
def aq_D (s : Nat) : Nat := aq_mk n fun b => p b && !aq_any n fun a => aq_r p h a b && !(aq_A n p h s).testBit a
/-- the range of s -/
def aq_R (s : Nat) : Nat := s ||| aq_A n p h s
def aq_pf (s : Nat) : Bool := aq_sb s (aq_P n p) && decide (s &&& aq_A n p h s = 0)
def aq_ad (s : Nat) : Bool := aq_pf n p h s && aq_sb s (aq_D n p h s)
def aq_co (s : Nat) : Bool := aq_ad n p h s && aq_sb (aq_D n p h s) s
def aq_pr (s : Nat) : Bool := aq_ad n p h s && !aq_any (2 ^ n) fun t => aq_ad n p h t && aq_pp s t
def aq_st (s : Nat) : Bool := aq_pf n p h s && decide (aq_R n p h s = aq_P n p)
def aq_sg (s : Nat) : Bool := aq_pf n p h s && !aq_any (2 ^ n) fun t => aq_pf n p h t && aq_pp (aq_R n p h s) (aq_R n p h t)
def aq_ss (s : Nat) : Bool := aq_co n p h s && !aq_any (2 ^ n) fun t => aq_co n p h t && aq_pp (aq_R n p h s) (aq_R n p h t)
def aq_kd (k s : Nat) : Bool :=
  if k = 0 then aq_ad n p h s else if k = 1 then aq_co n p h s else if k = 2 then aq_pr n p h s
  else if k = 3 then aq_st n p h s else if k = 4 then aq_sg n p h s else aq_ss n p h s
end
section
variable {n : Nat} {p : Nat → Bool} {h : Nat → Nat → Bool}
theorem aq_r_iff {a b : Nat} : aq_r p h a b = true ↔ p a = true ∧ p b = true ∧ h a b = true := by
  rw [aq_r, Bool.and_eq_true, Bool.and_eq_true, and_assoc]
theorem aq_P_lt : aq_P n p < 2 ^ n := aq_mk_lt _ _
theorem aq_A_lt (s : Nat) : aq_A n p h s < 2 ^ n := aq_mk_lt _ _
theorem aq_D_lt (s : Nat) : aq_D n p h s < 2 ^ n := aq_mk_lt _ _
theorem aq_R_lt {s : Nat} (hs : s < 2 ^ n) : aq_R n p h s < 2 ^ n := Nat.or_lt_two_pow hs (aq_A_lt s)
theorem aq_P_iff {i : Nat} : (aq_P n p).testBit i = true ↔ i < n ∧ p i = true := aq_mk_iff
theorem aq_A_iff {s b : Nat} : (aq_A n p h s).testBit b = true ↔ b < n ∧ ∃ a, a < n ∧ s.testBit a = true ∧ aq_r p h a b = true := by
  rw [aq_A, aq_mk_iff, aq_any_iff]
  simp only [Bool.and_eq_true]
theorem aq_D_iff {s b : Nat} : (aq_D n p h s).testBit b = true ↔ b < n ∧ p b = true ∧ ∀ a, a < n → aq_r p h a b = true → (aq_A n p h s).testBit a = true := by
  rw [aq_D, aq_mk_iff, Bool.and_eq_true, Bool.not_eq_true', aq_any_no]
  refine and_congr_right fun _ => and_congr_right fun _ => ⟨fun H a ha hr => ?_, fun H a ha => ?_⟩
  · have z := H a ha
    rw [hr, Bool.true_and, Bool.not_eq_false'] at z
    exact z
  · cases hr : aq_r p h a b with
    | false => rfl
    | true => rw [H a ha hr]; rfl
theorem aq_pf_iff {s : Nat} : aq_pf n p h s = true ↔ (∀ i, s.testBit i = true → i < n ∧ p i = true) ∧ ∀ a b, a < n → b < n → s.testBit a = true → s.testBit b = true → aq_r p h a b = false := by
  rw [aq_pf, Bool.and_eq_true, decide_eq_true_iff, aq_sb_iff]
  refine and_congr (forall_congr' fun i => by rw [aq_P_iff]) ⟨fun H a b ha hb sa sb => ?_, fun H => ?_⟩
  · cases hr : aq_r p h a b with
    | false => rfl
    | true =>
      have z : (s &&& aq_A n p h s).testBit b = true := by
        rw [Nat.testBit_and, sb, aq_A_iff.mpr ⟨hb, a, ha, sa, hr⟩]; rfl
      rw [H, Nat.zero_testBit] at z
      exact absurd z (by decide)
  · apply Nat.eq_of_testBit_eq
    intro b
    rw [Nat.zero_testBit, Nat.testBit_and]
    cases sb : s.testBit b with
    | false => rfl
    | true =>
      cases e : (aq_A n p h s).testBit b with
      | false => rfl
      | true =>
        obtain ⟨hb, a, ha, sa, hr⟩ := aq_A_iff.mp e
        rw [H a b ha hb sa sb] at hr
        exact absurd hr (by decide)
theorem aq_ad_iff {s : Nat} : aq_ad n p h s = true ↔ aq_pf n p h s = true ∧ ∀ i, s.testBit i = true → (aq_D n p h s).testBit i = true := by
  rw [aq_ad, Bool.and_eq_true, aq_sb_iff]
theorem aq_co_iff {s : Nat} : aq_co n p h s = true ↔ aq_ad n p h s = true ∧ ∀ i, (aq_D n p h s).testBit i = true → s.testBit i = true := by
  rw [aq_co, Bool.and_eq_true, aq_sb_iff]
theorem aq_A_mono {s t : Nat} (H : ∀ i, s.testBit i = true → t.testBit i = true) (b : Nat) (hb : (aq_A n p h s).testBit b = true) : (aq_A n p h t).testBit b = true := by
  obtain ⟨h1, a, ha, sa, hr⟩ := aq_A_iff.mp hb
  exact aq_A_iff.mpr ⟨h1, a, ha, H a sa, hr⟩
theorem aq_D_mono {s t : Nat} (H : ∀ i, s.testBit i = true → t.testBit i = true) (b : Nat) (hb : (aq_D n p h s).testBit b = true) : (aq_D n p h t).testBit b = true := by
  obtain ⟨h1, h2, h3⟩ := aq_D_iff.mp hb
  exact aq_D_iff.mpr ⟨h1, h2, fun a ha hr => aq_A_mono H a (h3 a ha hr)⟩
/-- what an admissible set defends is admissible -/
theorem aq_fund {s : Nat} (H : aq_ad n p h s = true) : aq_ad n p h (aq_D n p h s) = true := by
  obtain ⟨hp, hd⟩ := aq_ad_iff.mp H
  obtain ⟨hP, hc⟩ := aq_pf_iff.mp hp
  refine aq_ad_iff.mpr ⟨aq_pf_iff.mpr ⟨fun i hi => ?_, fun a b ha hb da db => ?_⟩, aq_D_mono hd⟩
  · obtain ⟨h1, h2, _⟩ := aq_D_iff.mp hi
    exact ⟨h1, h2⟩
  · cases hr : aq_r p h a b with
    | false => rfl
    | true =>
      obtain ⟨_, c, hcn, sc, rc⟩ := aq_A_iff.mp ((aq_D_iff.mp db).2.2 a ha hr)
      obtain ⟨_, d, hdn, sd, rd⟩ := aq_A_iff.mp ((aq_D_iff.mp da).2.2 c hcn rc)
      rw [hc d c hdn hcn sd sc] at rd
      exact absurd rd (by decide)
theorem aq_ad0 : aq_ad n p h 0 = true := by
  refine aq_ad_iff.mpr ⟨aq_pf_iff.mpr ⟨fun i hi => ?_, fun a b _ _ hi _ => ?_⟩, fun i hi => ?_⟩ <;>
  · rw [Nat.zero_testBit] at hi
    exact absurd hi (by decide)
end
/-- the grounded set, by rounds -/
def aq_g (n : Nat) (p : Nat → Bool) (h : Nat → Nat → Bool) : Nat → Nat
  | 0 => 0
  | m + 1 => aq_D n p h (aq_g n p h m)
section
variable {n : Nat} {p : Nat → Bool} {h : Nat → Nat → Bool}
theorem aq_g_ad : ∀ m, aq_ad n p h (aq_g n p h m) = true
  | 0 => aq_ad0
  | m + 1 => aq_fund (aq_g_ad m)
theorem aq_g_up (m : Nat) : ∀ i, (aq_g n p h m).testBit i = true → (aq_g n p h (m + 1)).testBit i = true := (aq_ad_iff.mp (aq_g_ad m)).2
theorem aq_g_lt : ∀ m, aq_g n p h m < 2 ^ n
  | 0 => Nat.two_pow_pos n
  | _ + 1 => aq_D_lt _
theorem aq_g_st1 {m c : Nat} (hc : c ≤ aq_cd n (aq_g n p h m)) (e : ¬ aq_g n p h (m + 1) = aq_g n p h m) : c + 1 ≤ aq_cd n (aq_g n p h (m + 1)) := by
  rcases Classical.em (∃ i, (aq_g n p h m).testBit i = false ∧ (aq_g n p h (m + 1)).testBit i = true) with ⟨i, h1, h2⟩ | z
  · have := aq_cd_lt (aq_g_up m) h1 h2 n (aq_hi (aq_g_lt _) h2)
    omega
  · refine absurd (Nat.eq_of_testBit_eq fun i => ?_) e
    cases e1 : (aq_g n p h m).testBit i with
    | true => exact aq_g_up m i e1
    | false =>
      cases e2 : (aq_g n p h (m + 1)).testBit i with
      | false => rfl
      | true => exact absurd ⟨i, e1, e2⟩ z
theorem aq_g_st : ∀ m, aq_g n p h (m + 1) = aq_g n p h m ∨ m + 1 ≤ aq_cd n (aq_g n p h (m + 1))
  | 0 => by
    by_cases e : aq_g n p h (0 + 1) = aq_g n p h 0
    · exact Or.inl e
    · exact Or.inr (aq_g_st1 (Nat.zero_le _) e)
  | m + 1 => by
    rcases aq_g_st m with z | z
    · refine Or.inl ?_
      show aq_D n p h (aq_g n p h (m + 1)) = aq_D n p h (aq_g n p h m)
      rw [z]
    · by_cases e : aq_g n p h (m + 1 + 1) = aq_g n p h (m + 1)
      · exact Or.inl e
      · exact Or.inr (aq_g_st1 z e)
theorem aq_g_fix : aq_D n p h (aq_g n p h n) = aq_g n p h n := by
  rcases aq_g_st (n := n) (p := p) (h := h) n with z | z
  · exact z
  · have := aq_cd_le (aq_g n p h (n + 1)) n
    omega
/-- the grounded set is complete -/
theorem aq_g_co : aq_co n p h (aq_g n p h n) = true := by
  refine aq_co_iff.mpr ⟨aq_g_ad n, fun i hi => ?_⟩
  rw [aq_g_fix] at hi
  exact hi
theorem aq_g_in {t : Nat} (ht : aq_co n p h t = true) : ∀ m i, (aq_g n p h m).testBit i = true → t.testBit i = true
  | 0, i, hi => by
    have z : (0 : Nat).testBit i = true := hi
    rw [Nat.zero_testBit] at z
    exact absurd z (by decide)
  | m + 1, i, hi => (aq_co_iff.mp ht).2 i (aq_D_mono (aq_g_in ht m) i hi)
/-- and part of every complete set -/
theorem aq_g_least {t : Nat} (ht : aq_co n p h t = true) : aq_sb (aq_g n p h n) t = true := aq_sb_iff.mpr (aq_g_in ht n)
/-- what the reference's search asks of a set -/
def aq_below (n : Nat) (p : Nat → Bool) (h : Nat → Nat → Bool) (s : Nat) : Bool := aq_co n p h s && !aq_any (2 ^ n) fun t => aq_co n p h t && !aq_sb s t
theorem aq_below_iff {s : Nat} : aq_below n p h s = true ↔ aq_co n p h s = true ∧ ∀ t, t < 2 ^ n → aq_co n p h t = true → aq_sb s t = true := by
  rw [aq_below, Bool.and_eq_true, Bool.not_eq_true', aq_any_no]
  refine and_congr_right fun _ => ⟨fun H t ht hc => ?_, fun H t ht => ?_⟩
  · have z := H t ht
    rw [hc, Bool.true_and, Bool.not_eq_false'] at z
    exact z
  · cases hc : aq_co n p h t with
    | false => rfl
    | true => rw [H t ht hc]; rfl
theorem aq_below_g : aq_below n p h (aq_g n p h n) = true := aq_below_iff.mpr ⟨aq_g_co, fun _ _ hc => aq_g_least hc⟩
theorem aq_below_u {s : Nat} (H : aq_below n p h s = true) : s = aq_g n p h n := by
  obtain ⟨h1, h2⟩ := aq_below_iff.mp H
  exact aq_sb_anti (h2 _ (aq_g_lt n) aq_g_co) (aq_g_least h1)
theorem aq_below_no {s : Nat} (H : s ≠ aq_g n p h n) : aq_below n p h s = false := by
  cases e : aq_below n p h s with
  | false => rfl
  | true => exact absurd (aq_below_u e) H
/-! the greatest number with a property -/
theorem aq_last (f : Nat → Bool) : ∀ k, (∃ i, i < k ∧ f i = true) → ∃ m, m < k ∧ f m = true ∧ ∀ j, m < j → j < k → f j = false
  | 0, ⟨_, z, _⟩ => absurd z (by omega)
  | k + 1, ⟨i, hi, hf⟩ => by
    cases e : f k with
    | true => exact ⟨k, by omega, e, fun j h1 h2 => absurd h1 (by omega)⟩
    | false =>
      have z : i < k := by
        rcases Nat.lt_or_ge i k with z | z
        · exact z
        · have e2 : i = k := by omega
          rw [e2, e] at hf; exact absurd hf (by decide)
      obtain ⟨m, h1, h2, h3⟩ := aq_last f k ⟨i, z, hf⟩
      refine ⟨m, by omega, h2, fun j h4 h5 => ?_⟩
      by_cases e2 : j = k
      · rw [e2]; exact e
      · exact h3 j h4 (by omega)
theorem aq_pr_iff {s : Nat} : aq_pr n p h s = true ↔ aq_ad n p h s = true ∧ ∀ t, t < 2 ^ n → aq_ad n p h t = true → aq_pp s t = false := by
  rw [aq_pr, Bool.and_eq_true, Bool.not_eq_true', aq_any_no]
  refine and_congr_right fun _ => ⟨fun H t ht hc => ?_, fun H t ht => ?_⟩
  · have z := H t ht
    rw [hc, Bool.true_and] at z
    exact z
  · cases hc : aq_ad n p h t with
    | false => rfl
    | true => rw [H t ht hc]; rfl
/-- there is a preferred set -/
theorem aq_pr_ex : ∃ m, m < 2 ^ n ∧ aq_pr n p h m = true := by
  obtain ⟨m, h1, h2, h3⟩ := aq_last (aq_ad n p h) (2 ^ n) ⟨0, Nat.two_pow_pos n, aq_ad0⟩
  refine ⟨m, h1, aq_pr_iff.mpr ⟨h2, fun t ht hc => ?_⟩⟩
  cases e : aq_pp m t with
  | false => rfl
  | true =>
    rw [aq_pp, Bool.and_eq_true, decide_eq_true_iff] at e
    have z := aq_sb_le e.2
    rw [h3 t (by omega) ht] at hc
    exact absurd hc (by decide)
/-- two admissible sets within one peaceful set: their union is admissible -/
theorem aq_ad_or {s t m : Nat} (hs : aq_ad n p h s = true) (ht : aq_ad n p h t = true) (hm : aq_pf n p h m = true) (sm : aq_sb s m = true) (tm : aq_sb t m = true) : aq_ad n p h (s ||| t) = true := by
  rw [aq_sb_iff] at sm tm
  obtain ⟨hP, hc⟩ := aq_pf_iff.mp hm
  have um : ∀ i, (s ||| t).testBit i = true → m.testBit i = true := by
    intro i hi
    rw [Nat.testBit_or, Bool.or_eq_true] at hi
    rcases hi with z | z
    · exact sm i z
    · exact tm i z
  refine aq_ad_iff.mpr ⟨aq_pf_iff.mpr ⟨fun i hi => hP i (um i hi), fun a b ha hb ua ub => hc a b ha hb (um a ua) (um b ub)⟩, fun i hi => ?_⟩
  rw [Nat.testBit_or, Bool.or_eq_true] at hi
  rcases hi with z | z
  · exact aq_D_mono (fun j hj => by rw [Nat.testBit_or, hj, Bool.true_or]) i ((aq_ad_iff.mp hs).2 i z)
  · exact aq_D_mono (fun j hj => by rw [Nat.testBit_or, hj, Bool.or_true]) i ((aq_ad_iff.mp ht).2 i z)
/-- C is part of every preferred set: the greatest number among the admissible parts of C contains them all -/
theorem aq_ideal {C m : Nat} (hC : ∀ t, t < 2 ^ n → aq_pr n p h t = true → aq_sb C t = true) (hm : m < 2 ^ n) (ha : aq_ad n p h m = true) (hs : aq_sb m C = true) (hl : ∀ j, m < j → j < 2 ^ n → (aq_sb j C && aq_ad n p h j) = false) {t : Nat} (ht : t < 2 ^ n) (hta : aq_ad n p h t = true) (hts : aq_sb t C = true) : aq_sb t m = true := by
  obtain ⟨q, hq, hp⟩ := aq_pr_ex (n := n) (p := p) (h := h)
  have hq2 := aq_sb_iff.mp (hC q hq hp)
  have s1 := aq_sb_iff.mp hs
  have s2 := aq_sb_iff.mp hts
  have hu := aq_ad_or ha hta (aq_ad_iff.mp (aq_pr_iff.mp hp).1).1 (aq_sb_iff.mpr fun i z => hq2 i (s1 i z)) (aq_sb_iff.mpr fun i z => hq2 i (s2 i z))
  have hul : m ||| t < 2 ^ n := Nat.or_lt_two_pow hm ht
  have huC : aq_sb (m ||| t) C = true := by
    refine aq_sb_iff.mpr fun i hi => ?_
    rw [Nat.testBit_or, Bool.or_eq_true] at hi
    rcases hi with z | z
    · exact s1 i z
    · exact s2 i z
  have hge : m ≤ m ||| t := Nat.left_le_or
  have e : m ||| t = m := by
    rcases Nat.lt_or_ge m (m ||| t) with z | z
    · have w := hl _ z hul
      rw [huC, hu] at w
      exact absurd w (by decide)
    · omega
  refine aq_sb_iff.mpr fun i hi => ?_
  rw [← e, Nat.testBit_or, hi, Bool.or_true]
end
end
section
/-! rows out of the starting texts: stores, numbers, branches, shifts, bits -/
theorem pk_us {f : Nat → Int32} {k : Nat} {x : Int32} : upd f k x k = x := if_pos rfl
theorem pk_un {f : Nat → Int32} {k j : Nat} {x : Int32} (h : j ≠ k) : upd f k x j = f j := if_neg h
theorem pk_sub {a b : Nat} (h : b ≤ a) : nI a - nI b = nI (a - b) := by
  obtain ⟨c, rfl⟩ : ∃ c, a = c + b := ⟨a - b, by omega⟩
  rw [← nI_add, Int32.add_sub_cancel, Nat.add_sub_cancel]
theorem pk_m1 (n : Nat) : nI (n + 1) + (-1) = nI n := by
  rw [← nI_1, Int32.add_assoc, show (1 : Int32) + (-1) = 0 from rfl, Int32.add_zero]
theorem pk_mul (a b : Nat) : nI a * nI b = nI (a * b) := (Int32.ofNat_mul a b).symm
theorem pk_ix (x : Int32) {n : Nat} (hn : n < 2 ^ 31) : x < 0 ∨ nI n ≤ x ∨ ∃ j : Nat, j < n ∧ x = nI j := by
  by_cases h : x < 0
  · exact Or.inl h
  · obtain ⟨j, hj, rfl⟩ := nI_of h
    by_cases h2 : j < n
    · exact Or.inr (Or.inr ⟨j, h2, rfl⟩)
    · exact Or.inr (Or.inl (nI_le (by omega) hj))
theorem pk_le {x y : Int32} {A B : Prop} (a b : Nat) (f : a ≤ b → A) (g : b < a → B) (hx : x = nI a := by rfl) (hy : y = nI b := by rfl) (ha : a < 2 ^ 31 := by omega) (hb : b < 2 ^ 31 := by omega) : (x ≤ y → A) ∧ (¬ x ≤ y → B) := by
  subst hx hy
  rw [nI_leI ha hb]
  exact ⟨f, fun z => g (by omega)⟩
theorem pk_lt {x y : Int32} {A B : Prop} (a b : Nat) (f : a < b → A) (g : b ≤ a → B) (hx : x = nI a := by rfl) (hy : y = nI b := by rfl) (ha : a < 2 ^ 31 := by omega) (hb : b < 2 ^ 31 := by omega) : (x < y → A) ∧ (¬ x < y → B) := by
  subst hx hy
  rw [nI_ltI ha hb]
  exact ⟨f, fun z => g (by omega)⟩
theorem pk_eq {x y : Int32} {A B : Prop} (a b : Nat) (f : a = b → A) (g : a ≠ b → B) (hx : x = nI a := by rfl) (hy : y = nI b := by rfl) (ha : a < 2 ^ 31 := by omega) (hb : b < 2 ^ 31 := by omega) : (x = y → A) ∧ (¬ x = y → B) := by
  subst hx hy
  rw [nI_eq ha hb]
  exact ⟨f, g⟩
theorem pk_in {x : Int32} (n N : Nat) (h : n < N) (hx : x = nI n := by rfl) (hN : N < 2 ^ 31 := by omega) : vp_in x N := by
  subst hx
  exact vp_in_nI h hN
theorem pk_cl {x : Int32} (n : Nat) (hx : x = nI n := by rfl) (h : n < 2 ^ 31 := by omega) : x.toNatClampNeg = n := by
  subst hx
  exact nI_clamp h
theorem pk_tn {n : Nat} (h : n < 2 ^ 32) : (nI n).toBitVec.toNat = n := Nat.mod_eq_of_lt h
theorem pk_shl (a s : Int32) (k : Nat) (hs : (s.toBitVec.smod 32).toNat = k) : (a <<< s).toBitVec.toNat = a.toBitVec.toNat * 2 ^ k % 2 ^ 32 := by
  show (a.toBitVec <<< (s.toBitVec.smod 32).toNat).toNat = _
  rw [hs, BitVec.toNat_shiftLeft, Nat.shiftLeft_eq]
theorem pk_shlN {n : Nat} (s : Int32) (k : Nat) (hs : (s.toBitVec.smod 32).toNat = k) (h : n * 2 ^ k < 2 ^ 32) : nI n <<< s = nI (n * 2 ^ k) := by
  apply Int32.toBitVec_inj.mp
  apply BitVec.eq_of_toNat_eq
  have hn : n < 2 ^ 32 := Nat.lt_of_le_of_lt (Nat.le_mul_of_pos_right n (Nat.two_pow_pos k)) h
  rw [pk_shl _ _ k hs, pk_tn hn, pk_tn h, Nat.mod_eq_of_lt h]
theorem pk_shr (a s : Int32) (k : Nat) (hs : (s.toBitVec.smod 32).toNat = k) : (a >>> s).toInt = a.toInt >>> k := by
  show (a.toBitVec.sshiftRight (s.toBitVec.smod 32).toNat).toInt = _
  rw [hs, BitVec.toInt_sshiftRight]
  rfl
theorem pk_shrN {n : Nat} (h : n < 2 ^ 31) (s : Int32) (k : Nat) (hs : (s.toBitVec.smod 32).toNat = k) : nI n >>> s = nI (n / 2 ^ k) := by
  apply Int32.toInt_inj.mp
  have h2 : n / 2 ^ k ≤ n := Nat.div_le_self _ _
  rw [pk_shr _ _ k hs, nI_toInt h, nI_toInt (by omega), Int.shiftRight_eq_div_pow]
  rfl
/-! ===== Int32 by its bits: bt x i ===== -/
def bt (x : Int32) (i : Nat) : Bool := x.toBitVec.getLsbD i
theorem b_ext {x y : Int32} (h : ∀ i, i < 32 → bt x i = bt y i) : x = y := Int32.toBitVec_inj.mp (BitVec.eq_of_getLsbD_eq (fun i hi => h i hi))
theorem b_or (x y : Int32) (i : Nat) : bt (x ||| y) i = (bt x i || bt y i) := by unfold bt; rw [Int32.toBitVec_or, BitVec.getLsbD_or]
theorem b_and (x y : Int32) (i : Nat) : bt (x &&& y) i = (bt x i && bt y i) := by unfold bt; rw [Int32.toBitVec_and, BitVec.getLsbD_and]
theorem b_xor (x y : Int32) (i : Nat) : bt (x ^^^ y) i = (bt x i ^^ bt y i) := by unfold bt; rw [Int32.toBitVec_xor, BitVec.getLsbD_xor]
theorem b_big {x : Int32} {i : Nat} (h : 32 ≤ i) : bt x i = false := BitVec.getLsbD_of_ge _ _ h
theorem b_m1 : ∀ i, i < 32 → bt (-1) i = true := by decide +kernel
theorem b_0 (i : Nat) : bt 0 i = false := BitVec.getLsbD_zero
theorem s_l : ∀ n, n < 32 → ((nI n &&& 31).toBitVec.smod 32).toNat = n := by decide +kernel
/-! ===== nI under and, xor, >>>, one bit, 65535 ===== -/
theorem nx_and (a b : Nat) : nI a &&& nI b = nI (a &&& b) := by
  apply Int32.toBitVec_inj.1
  show BitVec.ofNat 32 a &&& BitVec.ofNat 32 b = BitVec.ofNat 32 (a &&& b)
  apply BitVec.eq_of_getLsbD_eq
  intro i hi
  simp [hi]
theorem nx_xor (a b : Nat) : nI a ^^^ nI b = nI (a ^^^ b) := by
  apply Int32.toBitVec_inj.1
  show BitVec.ofNat 32 a ^^^ BitVec.ofNat 32 b = BitVec.ofNat 32 (a ^^^ b)
  apply BitVec.eq_of_getLsbD_eq
  intro i hi
  simp [hi]
end
section
/-! numbers as sets of bits in Int32 -/
theorem aq_bt (s : Nat) {i : Nat} (hi : i < 32) : bt (nI s) i = s.testBit i := by
  show (BitVec.ofNat 32 s).getLsbD i = _
  rw [BitVec.getLsbD_ofNat, decide_eq_true hi, Bool.true_and]
theorem aq_nor (a b : Nat) : nI a ||| nI b = nI (a ||| b) := b_ext fun i hi => by rw [b_or, aq_bt _ hi, aq_bt _ hi, aq_bt _ hi, Nat.testBit_or]
/-- a without b -/
def aq_df (a b : Nat) : Nat := a ^^^ (a &&& b)
theorem aq_df_tb (a b i : Nat) : (aq_df a b).testBit i = (a.testBit i && !b.testBit i) := by
  rw [aq_df, Nat.testBit_xor, Nat.testBit_and]
  cases a.testBit i <;> cases b.testBit i <;> rfl
theorem aq_df_lt {k a : Nat} (h : a < 2 ^ k) (b : Nat) : aq_df a b < 2 ^ k := Nat.xor_lt_two_pow h (Nat.lt_of_le_of_lt Nat.and_le_left h)
theorem aq_df_or (a b c : Nat) : aq_df (aq_df a b) c = aq_df a (b ||| c) := by
  apply Nat.eq_of_testBit_eq
  intro i
  rw [aq_df_tb, aq_df_tb, aq_df_tb, Nat.testBit_or]
  cases a.testBit i <;> cases b.testBit i <;> cases c.testBit i <;> rfl
theorem aq_ndf (a b : Nat) : nI a &&& (nI b ^^^ (-1)) = nI (aq_df a b) := b_ext fun i hi => by
  rw [b_and, b_xor, b_m1 i hi, aq_bt _ hi, aq_bt _ hi, aq_bt _ hi, aq_df_tb, Bool.xor_true]
theorem aq_df0 {a b : Nat} : aq_df a b = 0 ↔ a &&& b = a := by
  constructor
  · intro e
    apply Nat.eq_of_testBit_eq
    intro i
    have z : (aq_df a b).testBit i = false := by rw [e, Nat.zero_testBit]
    rw [aq_df_tb] at z
    rw [Nat.testBit_and]
    revert z
    cases a.testBit i <;> cases b.testBit i <;> simp
  · intro e
    rw [aq_df, e, Nat.xor_self]
/-- a flag as an int -/
def aq_i (b : Bool) : Int32 := if b then 1 else 0
theorem aq_one {s c : Nat} (hs : s < 2 ^ 31) (hc : c < 32) : (nI s >>> (nI c &&& 31)) &&& 1 = aq_i (s.testBit c) := by
  rw [pk_shrN hs _ c (s_l c hc)]
  show nI (s / 2 ^ c) &&& nI 1 = _
  rw [nx_and, Nat.and_one_is_mod, Nat.testBit_eq_decide_div_mod_eq, aq_i]
  generalize s / 2 ^ c = z
  rcases Nat.mod_two_eq_zero_or_one z with e | e <;> rw [e] <;> rfl
theorem aq_pow {c : Nat} (hc : c < 32) : (1 : Int32) <<< (nI c &&& 31) = nI (2 ^ c) := by
  have z : 1 * 2 ^ c < 2 ^ 32 := by rw [Nat.one_mul]; exact Nat.pow_lt_pow_right (by decide) hc
  have e := pk_shlN (n := 1) (nI c &&& 31) c (s_l c hc) z
  rw [Nat.one_mul] at e
  exact e
theorem aq_z {k : Nat} (hk : k < 2 ^ 31) : nI k = 0 ↔ k = 0 := nI_eq (b := 0) hk (by decide)
theorem aq_sub0 {s t : Nat} (hs : s < 2 ^ 31) : nI s &&& (nI t ^^^ (-1)) = 0 ↔ aq_sb s t = true := by
  rw [aq_ndf, aq_z (aq_df_lt hs t), aq_df0, aq_sb, decide_eq_true_iff]
theorem aq_sub1 {s t : Nat} (hs : s < 2 ^ 31) : nI s &&& nI t = nI s ↔ aq_sb s t = true := by
  rw [nx_and, nI_eq (Nat.lt_of_le_of_lt Nat.and_le_left hs) hs, aq_sb, decide_eq_true_iff]
theorem aq_nar (b : Bool) : narrow .boolean (.int (aq_i b)) = .int (aq_i b) := by cases b <;> rfl
theorem aq_vnar (b : Bool) : vp_nar .boolean (aq_i b) = aq_i b := by cases b <;> rfl
/-! branches on flags -/
theorem aq_bz {b : Bool} {A B : Prop} (f : b = false → A) (g : b = true → B) : (aq_i b = 0 → A) ∧ (¬ aq_i b = 0 → B) := by
  cases b with
  | false => exact ⟨fun _ => f rfl, fun z => absurd rfl z⟩
  | true => exact ⟨fun z => absurd z (by decide), fun _ => g rfl⟩
theorem aq_bx {x : Int32} {b : Bool} {A B : Prop} (e : x = aq_i b) (f : b = false → A) (g : b = true → B) : (x = 0 → A) ∧ (¬ x = 0 → B) := by
  subst e
  exact aq_bz f g
theorem aq_bp {post : Int32 → Prop} {x : Int32} {b : Bool} (e : x = aq_i b) (H : post (aq_i b)) : (x = 0 → post 0) ∧ (¬ x = 0 → post 1) := aq_bx e (fun z => by subst z; exact H) (fun z => by subst z; exact H)
theorem aq_bp1 {post : Int32 → Prop} {x : Int32} {b : Bool} (e : x = aq_i b) (H : post (aq_i b)) : (x = 1 → post 1) ∧ (¬ x = 1 → post 0) := by
  subst e
  cases b with
  | false => exact ⟨fun z => absurd z (by decide), fun _ => H⟩
  | true => exact ⟨fun _ => H, fun z => absurd rfl z⟩
theorem aq_bc {c : Prop} {post : Int32 → Prop} {b : Bool} (e : c ↔ b = true) (H : post (aq_i b)) : (c → post 1) ∧ (¬ c → post 0) := by
  cases b with
  | false => exact ⟨fun z => absurd (e.mp z) (by decide), fun _ => H⟩
  | true => exact ⟨fun _ => H, fun z => absurd (e.mpr rfl) z⟩
theorem aq_if {c : Prop} {b : Bool} {A B : Prop} (e : c ↔ b = true) (f : b = true → A) (g : b = false → B) : (c → A) ∧ (¬ c → B) := by
  cases b with
  | false => exact ⟨fun z => absurd (e.mp z) (by decide), fun _ => g rfl⟩
  | true => exact ⟨fun _ => f rfl, fun z => absurd (e.mpr rfl) z⟩
theorem aq_pt {post : Int32 → Prop} {b : Bool} (H : post (aq_i b)) (z : b = true) : post 1 := by subst z; exact H
theorem aq_pz {post : Int32 → Prop} {b : Bool} (H : post (aq_i b)) (z : b = false) : post 0 := by subst z; exact H
/-! bounds -/
theorem aq_256 {n : Nat} (h8 : n ≤ 8) : 2 ^ n ≤ 256 := Nat.pow_le_pow_right (n := 2) (by decide) h8
theorem aq_31 {n s : Nat} (h8 : n ≤ 8) (hs : s < 2 ^ n) : s < 2 ^ 31 := by
  have := aq_256 h8
  omega
theorem aq_31e {n : Nat} (h8 : n ≤ 8) : 2 ^ n < 2 ^ 31 := by
  have := aq_256 h8
  omega
theorem aq_ge {n i : Nat} {A B : Prop} (h8 : n ≤ 8) (hi : i < 2 ^ n) (H : B) : (((1 : Int32) <<< (nI n &&& 31)) ≤ nI i → A) ∧ (¬ ((1 : Int32) <<< (nI n &&& 31)) ≤ nI i → B) := by
  rw [aq_pow (by omega)]
  exact br_f (nI_ge hi (aq_31e h8)) H
theorem aq_end {n : Nat} {A B : Prop} (h8 : n ≤ 8) (H : A) : (((1 : Int32) <<< (nI n &&& 31)) ≤ nI (2 ^ n) → A) ∧ (¬ ((1 : Int32) <<< (nI n &&& 31)) ≤ nI (2 ^ n) → B) := by
  rw [aq_pow (by omega)]
  exact br_t (nI_le (Nat.le_refl _) (aq_31e h8)) H
theorem aq_lim {n i : Nat} {A B : Prop} (h8 : n ≤ 8) (hi : i < 2 ^ n) (H : B) : (256 ≤ nI i → A) ∧ (¬ 256 ≤ nI i → B) := br_f (nI_ge (b := 256) (Nat.lt_of_lt_of_le hi (aq_256 h8)) (by decide)) H
theorem aq_in {n i : Nat} (h8 : n ≤ 8) (hi : i < 2 ^ n) : vp_in (nI i) 256 := vp_in_nI (Nat.lt_of_lt_of_le hi (aq_256 h8)) (by decide)
/-! loops -/
theorem aq_up1 {W : Nat → Int32 → Int32 → Prop} (N : Nat) (acc : Nat → Int32) (hN : ∀ m, W (m + 1) (acc N) (nI N)) (hs : ∀ m i, i < N → W m (acc (i + 1)) (nI (i + 1)) → W (m + 1) (acc i) (nI i)) : ∀ d i, i + d = N → W (d + 1) (acc i) (nI i)
  | 0, i, e => by
    have z : i = N := by omega
    subst z
    exact hN 0
  | d + 1, i, e => hs (d + 1) i (by omega) (aq_up1 N acc hN hs d (i + 1) (by omega))
theorem aq_up {W : Nat → Int32 → Int32 → Prop} {x y : Int32} (N : Nat) (acc : Nat → Int32) (hx : x = acc 0) (hy : y = nI 0) (hN : ∀ m, W (m + 1) (acc N) (nI N)) (hs : ∀ m i, i < N → W m (acc (i + 1)) (nI (i + 1)) → W (m + 1) (acc i) (nI i)) : ∃ m, W m x y := by
  subst hx hy
  exact ⟨N + 1, aq_up1 N acc hN hs N 0 (by omega)⟩
theorem aq_scan1 {W : Nat → Int32 → Prop} {post : Int32 → Prop} {r0 r1 : Int32} (N : Nat) (f : Nat → Bool) (hN : post r1 → ∀ m, W (m + 1) (nI N)) (hs : ∀ m i, i < N → (f i = true → post r0) → (f i = false → W m (nI (i + 1))) → W (m + 1) (nI i)) (H : post (if aq_any N f then r0 else r1)) : ∀ d i, i + d = N → (∀ j, j < i → f j = false) → W (d + 1) (nI i)
  | 0, i, e, K => by
    have z : i = N := by omega
    subst z
    rw [aq_any_no.mpr K] at H
    exact hN H 0
  | d + 1, i, e, K => by
    refine hs (d + 1) i (by omega) (fun z => ?_) (fun z => aq_scan1 N f hN hs H d (i + 1) (by omega) fun j hj => ?_)
    · rw [(aq_any_iff f N).mpr ⟨i, by omega, z⟩] at H
      exact H
    · rcases Nat.lt_or_ge j i with w | w
      · exact K j w
      · have e2 : j = i := by omega
        rw [e2]
        exact z
theorem aq_scan {W : Nat → Int32 → Prop} {post : Int32 → Prop} {r0 r1 y : Int32} (N : Nat) (f : Nat → Bool) (hy : y = nI 0) (hN : post r1 → ∀ m, W (m + 1) (nI N)) (hs : ∀ m i, i < N → (f i = true → post r0) → (f i = false → W m (nI (i + 1))) → W (m + 1) (nI i)) (H : post (if aq_any N f then r0 else r1)) : ∃ m, W m y := by
  subst hy
  exact ⟨N + 1, aq_scan1 N f hN hs H N 0 (by omega) fun j hj => absurd hj (by omega)⟩
/-! more of aq_mk -/
theorem aq_mk_or (n : Nat) (f g : Nat → Bool) : aq_mk n f ||| aq_mk n g = aq_mk n fun b => f b || g b := by
  apply Nat.eq_of_testBit_eq
  intro i
  rw [Nat.testBit_or, aq_mk_tb, aq_mk_tb, aq_mk_tb]
  cases decide (i < n) <;> cases f i <;> cases g i <;> rfl
theorem aq_mk_ext {n : Nat} {f g : Nat → Bool} (H : ∀ b, b < n → f b = g b) : aq_mk n f = aq_mk n g := by
  apply Nat.eq_of_testBit_eq
  intro i
  rw [aq_mk_tb, aq_mk_tb]
  by_cases z : i < n
  · rw [H i z]
  · rw [decide_eq_false z, Bool.false_and, Bool.false_and]
theorem aq_mk_0 (n : Nat) : (aq_mk n fun _ => false) = 0 := by
  apply Nat.eq_of_testBit_eq
  intro i
  rw [aq_mk_tb, Nat.zero_testBit, Bool.and_false]
theorem aq_mk_f {f : Nat → Bool} {i : Nat} (z : f i = false) : aq_mk (i + 1) f = aq_mk i f := by
  rw [aq_mk, z]
  exact Nat.or_zero _
theorem aq_mk_t {f : Nat → Bool} {i : Nat} (z : f i = true) : aq_mk (i + 1) f = aq_mk i f ||| 2 ^ i := by
  rw [aq_mk, z]
  rfl
section
variable {n : Nat} {p : Nat → Bool} {h : Nat → Nat → Bool}
theorem aq_Pt {a : Nat} (ha : a < n) : (aq_P n p).testBit a = p a := by rw [aq_P, aq_mk_tb, decide_eq_true ha, Bool.true_and]
/-- what the component's attackedBy answers -/
def aq_X (n : Nat) (p : Nat → Bool) (h : Nat → Nat → Bool) (s : Nat) : Nat := aq_mk n fun b => p b && aq_any n fun a => s.testBit a && h a b
def aq_acc (n : Nat) (h : Nat → Nat → Bool) (s i : Nat) : Nat := aq_mk n fun b => aq_any i fun a => s.testBit a && h a b
theorem aq_X_lt (s : Nat) : aq_X n p h s < 2 ^ n := aq_mk_lt _ _
theorem aq_X_iff {s b : Nat} : (aq_X n p h s).testBit b = true ↔ b < n ∧ p b = true ∧ ∃ a, a < n ∧ s.testBit a = true ∧ h a b = true := by
  rw [aq_X, aq_mk_iff, Bool.and_eq_true, aq_any_iff]
  simp only [Bool.and_eq_true]
theorem aq_acc_0 (s : Nat) : aq_acc n h s 0 = 0 := aq_mk_0 n
theorem aq_acc_t {s i : Nat} (z : s.testBit i = true) : aq_acc n h s i ||| aq_mk n (h i) = aq_acc n h s (i + 1) := by
  unfold aq_acc
  rw [aq_mk_or]
  refine aq_mk_ext fun b _ => ?_
  show (_ || h i b) = (aq_any i _ || (s.testBit i && h i b))
  rw [z, Bool.true_and]
theorem aq_acc_f {s i : Nat} (z : s.testBit i = false) : aq_acc n h s (i + 1) = aq_acc n h s i := by
  unfold aq_acc
  refine aq_mk_ext fun b _ => ?_
  show (aq_any i _ || (s.testBit i && h i b)) = _
  rw [z, Bool.false_and, Bool.or_false]
theorem aq_acc_n (s : Nat) : aq_acc n h s n &&& aq_P n p = aq_X n p h s := by
  unfold aq_acc aq_P aq_X
  apply Nat.eq_of_testBit_eq
  intro i
  rw [Nat.testBit_and, aq_mk_tb, aq_mk_tb, aq_mk_tb]
  generalize aq_any n (fun a => s.testBit a && h a i) = z
  cases decide (i < n) <;> cases p i <;> cases z <;> rfl
theorem aq_X_A {s : Nat} (hs : aq_sb s (aq_P n p) = true) : aq_X n p h s = aq_A n p h s := by
  refine aq_mk_ext fun b hb => ?_
  rw [Bool.eq_iff_iff, Bool.and_eq_true, aq_any_iff, aq_any_iff]
  simp only [Bool.and_eq_true, aq_r_iff]
  constructor
  · rintro ⟨h1, a, ha, h2, h3⟩
    exact ⟨a, ha, h2, (aq_P_iff.mp (aq_sb_iff.mp hs a h2)).2, h1, h3⟩
  · rintro ⟨a, ha, h2, h3, h4, h5⟩
    exact ⟨h4, a, ha, h2, h5⟩
theorem aq_D_eq {s : Nat} (hs : aq_sb s (aq_P n p) = true) : aq_df (aq_P n p) (aq_X n p h (aq_df (aq_P n p) (aq_X n p h s))) = aq_D n p h s := by
  rw [aq_X_A hs]
  apply Nat.eq_of_testBit_eq
  intro b
  rw [Bool.eq_iff_iff, aq_df_tb, Bool.and_eq_true, Bool.not_eq_true', aq_D_iff, aq_P_iff]
  constructor
  · rintro ⟨⟨h1, h2⟩, h3⟩
    refine ⟨h1, h2, fun a ha hr => ?_⟩
    cases e : (aq_A n p h s).testBit a with
    | true => rfl
    | false =>
      have z : (aq_X n p h (aq_df (aq_P n p) (aq_A n p h s))).testBit b = true := aq_X_iff.mpr ⟨h1, h2, a, ha, by rw [aq_df_tb, e, aq_P_iff.mpr ⟨ha, (aq_r_iff.mp hr).1⟩]; rfl, (aq_r_iff.mp hr).2.2⟩
      rw [h3] at z
      exact absurd z (by decide)
  · rintro ⟨h1, h2, h3⟩
    refine ⟨⟨h1, h2⟩, ?_⟩
    cases e : (aq_X n p h (aq_df (aq_P n p) (aq_A n p h s))).testBit b with
    | false => rfl
    | true =>
      obtain ⟨_, _, a, ha, h4, h5⟩ := aq_X_iff.mp e
      rw [aq_df_tb, Bool.and_eq_true, Bool.not_eq_true'] at h4
      rw [h3 a ha (aq_r_iff.mpr ⟨(aq_P_iff.mp h4.1).2, h2, h5⟩)] at h4
      exact absurd h4.2 (by decide)
theorem aq_D_P (s : Nat) : aq_sb (aq_D n p h s) (aq_P n p) = true := aq_sb_iff.mpr fun i hi => by
  obtain ⟨h1, h2, _⟩ := aq_D_iff.mp hi
  exact aq_P_iff.mpr ⟨h1, h2⟩
theorem aq_pf_P {s : Nat} (z : aq_pf n p h s = true) : aq_sb s (aq_P n p) = true := by
  rw [aq_pf, Bool.and_eq_true] at z
  exact z.1
theorem aq_ad_pf {s : Nat} (z : aq_ad n p h s = true) : aq_pf n p h s = true := (aq_ad_iff.mp z).1
theorem aq_co_pf {s : Nat} (z : aq_co n p h s = true) : aq_pf n p h s = true := aq_ad_pf (aq_co_iff.mp z).1
theorem aq_co_eq {s : Nat} (z : aq_pf n p h s = true) : aq_co n p h s = decide (s = aq_D n p h s) := by
  rw [aq_co, aq_ad, z, Bool.true_and, Bool.eq_iff_iff, Bool.and_eq_true, decide_eq_true_iff]
  constructor
  · rintro ⟨h1, h2⟩
    exact aq_sb_anti h1 h2
  · intro e
    rw [← e]
    exact ⟨aq_sb_rfl s, aq_sb_rfl s⟩
end
end
section
/-! the component's walks -/
section
variable {n : Nat} {p : Nat → Bool} {h : Nat → Nat → Bool} {post : Int32 → Prop}
abbrev aq_t (n : Nat) (h : Nat → Nat → Bool) : Nat → Int32 := fun c => nI (aq_mk n (h c))
abbrev aq_u (n : Nat) (p : Nat → Bool) (h : Nat → Nat → Bool) : SX := (nI n, nI (2 ^ n), nI (aq_P n p), aq_t n h)
theorem ax_good {j : Nat} (h8 : n ≤ 8) (hj : j < n) (H : post 1) : wpX_isGood post (aq_u n p h) (nI j) := br_f (nI_pos (by omega)) (br_f (nI_ge hj (by omega)) H)
theorem ax_bad {x : Int32} (hx : x < 0 ∨ nI n ≤ x) (H : post 0) : wpX_isGood post (aq_u n p h) x := by
  by_cases z : x < 0
  · exact br_t z H
  · rcases hx with w | w
    · exact absurd w z
    · exact br_f z (br_t w H)
theorem ax_has {s c : Nat} (h8 : n ≤ 8) (hs : s < 2 ^ n) (hc : c < n) (H : post (aq_i (s.testBit c))) : wpX_contains post (aq_u n p h) (nI s) (nI c) := aq_bp (aq_one (aq_31 h8 hs) (by omega)) H
theorem ax_part {s t : Nat} (hs : s < 2 ^ 31) (H : post (aq_i (aq_sb s t))) : wpX_isPart post (aq_u n p h) (nI s) (nI t) := aq_bc (aq_sub0 hs) H
theorem ax_pp {s t : Nat} (hs : s < 2 ^ 31) (ht : t < 2 ^ 31) (H : post (aq_i (aq_pp s t))) : wpX_isProperPart post (aq_u n p h) (nI s) (nI t) := by
  unfold wpX_isProperPart aq_u
  dsimp only
  refine pk_eq s t (fun e => ?_) (fun e => ?_) rfl rfl hs ht
  · exact aq_pz H (by rw [aq_pp, decide_eq_false (by simpa using e), Bool.false_and])
  · refine ax_part hs (aq_bp rfl ?_)
    rw [aq_pp, decide_eq_true e, Bool.true_and] at H
    exact H
theorem ax_att {s : Nat} (h8 : n ≤ 8) (hs : s < 2 ^ n) (H : post (nI (aq_X n p h s))) : wpX_attackedBy post (aq_u n p h) (nI s) := by
  unfold wpX_attackedBy aq_u
  dsimp only
  refine aq_up (W := wX_attackedBy_4 post (nI s) (nI n) (nI (2 ^ n)) (nI (aq_P n p)) (aq_t n h)) n (fun i => nI (aq_acc n h s i)) (by rw [aq_acc_0]; rfl) rfl (fun m => br_t (nI_le (Nat.le_refl n) (by omega)) ?_) (fun m i hi K => br_f (nI_ge hi (by omega)) (aq_bx (aq_one (aq_31 h8 hs) (by omega)) (fun z => nm_r (nI_1 i) ?_) (fun z => ⟨vp_in_nI (by omega) (by decide), nm_r ?_ (nm_r (nI_1 i) K)⟩)))
  · rw [nx_and, aq_acc_n]
    exact H
  · rw [aq_acc_f z] at K
    exact K
  · rw [nI_clamp (by omega), ← aq_acc_t z, aq_nor]
theorem ax_def {s : Nat} (h8 : n ≤ 8) (hs : s < 2 ^ n) (hp : aq_sb s (aq_P n p) = true) (H : post (nI (aq_D n p h s))) : wpX_defendedBy post (aq_u n p h) (nI s) := by
  unfold wpX_defendedBy aq_u
  dsimp only
  refine ax_att h8 hs (nm_r (aq_ndf _ _) (ax_att h8 (aq_df_lt aq_P_lt _) ?_))
  rw [aq_ndf, aq_D_eq hp]
  exact H
theorem ax_rng {s : Nat} (h8 : n ≤ 8) (hs : s < 2 ^ n) (H : post (nI (s ||| aq_X n p h s))) : wpX_rangeOf post (aq_u n p h) (nI s) := by
  unfold wpX_rangeOf aq_u
  dsimp only
  refine ax_att h8 hs ?_
  rw [aq_nor]
  exact H
theorem aq_RX_lt {s : Nat} (hs : s < 2 ^ n) : s ||| aq_X n p h s < 2 ^ n := Nat.or_lt_two_pow hs (aq_X_lt s)
theorem ax_pf {s : Nat} (h8 : n ≤ 8) (hs : s < 2 ^ n) (H : post (aq_i (aq_pf n p h s))) : wpX_isPeaceful post (aq_u n p h) (nI s) := by
  unfold wpX_isPeaceful aq_u
  dsimp only
  refine ax_part (aq_31 h8 hs) (aq_bz (fun z => ?_) (fun z => ax_att h8 hs (aq_bc (b := aq_pf n p h s) ?_ H)))
  · exact aq_pz H (by rw [aq_pf, z, Bool.false_and])
  · rw [nx_and, aq_z (Nat.lt_of_le_of_lt Nat.and_le_left (aq_31 h8 hs)), aq_X_A z, aq_pf, z, Bool.true_and, decide_eq_true_iff]
theorem ax_ad {s : Nat} (h8 : n ≤ 8) (hs : s < 2 ^ n) (H : post (aq_i (aq_ad n p h s))) : wpX_isAdmissible post (aq_u n p h) (nI s) := by
  unfold wpX_isAdmissible aq_u
  dsimp only
  refine ax_pf h8 hs (aq_bz (fun z => ?_) (fun z => ax_def h8 hs (aq_pf_P z) (aq_bc (b := aq_ad n p h s) ?_ H)))
  · exact aq_pz H (by rw [aq_ad, z, Bool.false_and])
  · rw [aq_sub0 (aq_31 h8 hs), aq_ad, z, Bool.true_and]
theorem ax_co {s : Nat} (h8 : n ≤ 8) (hs : s < 2 ^ n) (H : post (aq_i (aq_co n p h s))) : wpX_isComplete post (aq_u n p h) (nI s) := by
  unfold wpX_isComplete aq_u
  dsimp only
  refine ax_pf h8 hs (aq_bz (fun z => ?_) (fun z => ax_def h8 hs (aq_pf_P z) (aq_bc (b := aq_co n p h s) ?_ H)))
  · exact aq_pz H (by rw [aq_co, aq_ad, z, Bool.false_and, Bool.false_and])
  · rw [nI_eq (aq_31 h8 hs) (aq_31 h8 (aq_D_lt s)), aq_co_eq z, decide_eq_true_iff]
theorem aq_sc {N : Nat} {f : Nat → Bool} (H : post (aq_i (!aq_any N f))) : post (if aq_any N f then 0 else 1) := by
  cases e : aq_any N f with
  | false => rw [e] at H; exact H
  | true => rw [e] at H; exact H
theorem ax_pr {s : Nat} (h8 : n ≤ 8) (hs : s < 2 ^ n) (H : post (aq_i (aq_pr n p h s))) : wpX_isPreferred post (aq_u n p h) (nI s) := by
  unfold wpX_isPreferred aq_u
  dsimp only
  refine ax_ad h8 hs (aq_bz (fun z => ?_) (fun z => ?_))
  · exact aq_pz H (by rw [aq_pr, z, Bool.false_and])
  · rw [aq_pr, z, Bool.true_and] at H
    refine aq_scan (W := wX_isPreferred_12 post (nI s) (nI n) (nI (2 ^ n)) (nI (aq_P n p)) (aq_t n h)) (2 ^ n) (fun t => aq_ad n p h t && aq_pp s t) rfl (fun K m => br_t (nI_le (Nat.le_refl _) (aq_31e h8)) K) (fun m i hi K1 K2 => br_f (nI_ge hi (aq_31e h8)) ?_) (aq_sc H)
    refine ax_pp (aq_31 h8 hs) (aq_31 h8 hi) (aq_bz (fun z1 => nm_r (nI_1 i) (K2 ?_)) (fun z1 => ax_ad h8 hi (aq_bz (fun z2 => nm_r (nI_1 i) (K2 ?_)) (fun z2 => K1 ?_))))
    · rw [z1, Bool.and_false]
    · rw [z2, Bool.false_and]
    · rw [z1, z2, Bool.and_true]
theorem ax_st {s : Nat} (h8 : n ≤ 8) (hs : s < 2 ^ n) (H : post (aq_i (aq_st n p h s))) : wpX_isStable post (aq_u n p h) (nI s) := by
  unfold wpX_isStable aq_u
  dsimp only
  refine ax_pf h8 hs (aq_bz (fun z => ?_) (fun z => ax_rng h8 hs (aq_bc (b := aq_st n p h s) ?_ H)))
  · exact aq_pz H (by rw [aq_st, z, Bool.false_and])
  · rw [aq_X_A (aq_pf_P z)]
    show nI (aq_R n p h s) = nI (aq_P n p) ↔ _
    rw [nI_eq (aq_31 h8 (aq_R_lt hs)) (aq_31 h8 aq_P_lt), aq_st, z, Bool.true_and, decide_eq_true_iff]
theorem aq_RXf {g : Nat → Bool} (hg : ∀ t, g t = true → aq_pf n p h t = true) (r t : Nat) : (g t && aq_pp r (t ||| aq_X n p h t)) = (g t && aq_pp r (aq_R n p h t)) := by
  cases e : g t with
  | false => rfl
  | true => rw [aq_X_A (aq_pf_P (hg t e)), aq_R]
theorem ax_sg {s : Nat} (h8 : n ≤ 8) (hs : s < 2 ^ n) (H : post (aq_i (aq_sg n p h s))) : wpX_isStage post (aq_u n p h) (nI s) := by
  unfold wpX_isStage aq_u
  dsimp only
  refine ax_pf h8 hs (aq_bz (fun z => ?_) (fun z => ax_rng h8 hs ?_))
  · exact aq_pz H (by rw [aq_sg, z, Bool.false_and])
  · rw [aq_sg, z, Bool.true_and] at H
    rw [aq_X_A (aq_pf_P z)]
    refine aq_scan (W := wX_isStage_18 post (nI (s ||| aq_A n p h s)) (nI n) (nI (2 ^ n)) (nI (aq_P n p)) (aq_t n h)) (2 ^ n) (fun t => aq_pf n p h t && aq_pp (aq_R n p h s) (aq_R n p h t)) rfl (fun K m => br_t (nI_le (Nat.le_refl _) (aq_31e h8)) K) (fun m i hi K1 K2 => br_f (nI_ge hi (aq_31e h8)) ?_) (aq_sc H)
    rw [← aq_RXf (fun _ z => z)] at K1 K2
    refine ax_rng h8 hi (ax_pp (aq_31 h8 (aq_R_lt hs)) (aq_31 h8 (aq_RX_lt hi)) (aq_bz (fun z1 => nm_r (nI_1 i) (K2 ?_)) (fun z1 => ax_pf h8 hi (aq_bz (fun z2 => nm_r (nI_1 i) (K2 ?_)) (fun z2 => K1 ?_)))))
    · rw [aq_R, z1, Bool.and_false]
    · rw [z2, Bool.false_and]
    · rw [aq_R, z1, z2, Bool.and_true]
theorem ax_ss {s : Nat} (h8 : n ≤ 8) (hs : s < 2 ^ n) (H : post (aq_i (aq_ss n p h s))) : wpX_isSemistable post (aq_u n p h) (nI s) := by
  unfold wpX_isSemistable aq_u
  dsimp only
  refine ax_co h8 hs (aq_bz (fun z => ?_) (fun z => ax_rng h8 hs ?_))
  · exact aq_pz H (by rw [aq_ss, z, Bool.false_and])
  · rw [aq_ss, z, Bool.true_and] at H
    rw [aq_X_A (aq_pf_P (aq_co_pf z))]
    refine aq_scan (W := wX_isSemistable_18 post (nI (s ||| aq_A n p h s)) (nI n) (nI (2 ^ n)) (nI (aq_P n p)) (aq_t n h)) (2 ^ n) (fun t => aq_co n p h t && aq_pp (aq_R n p h s) (aq_R n p h t)) rfl (fun K m => br_t (nI_le (Nat.le_refl _) (aq_31e h8)) K) (fun m i hi K1 K2 => br_f (nI_ge hi (aq_31e h8)) ?_) (aq_sc H)
    rw [← aq_RXf (fun _ z => aq_co_pf z)] at K1 K2
    refine ax_rng h8 hi (ax_pp (aq_31 h8 (aq_R_lt hs)) (aq_31 h8 (aq_RX_lt hi)) (aq_bz (fun z1 => nm_r (nI_1 i) (K2 ?_)) (fun z1 => ax_co h8 hi (aq_bz (fun z2 => nm_r (nI_1 i) (K2 ?_)) (fun z2 => K1 ?_)))))
    · rw [aq_R, z1, Bool.and_false]
    · rw [z2, Bool.false_and]
    · rw [aq_R, z1, z2, Bool.and_true]
theorem ax_kd {k s : Nat} (h8 : n ≤ 8) (hk : k < 6) (hs : s < 2 ^ n) (H : post (aq_i (aq_kd n p h k s))) : wpX_isOfKind post (aq_u n p h) (nI k) (nI s) := by
  unfold wpX_isOfKind aq_u
  dsimp only
  match k, hk with
  | 0, _ => exact br_f (by decide) (br_f (by decide) (br_t rfl (ax_ad h8 hs ⟨aq_nar _, H⟩)))
  | 1, _ => exact br_f (by decide) (br_f (by decide) (br_f (by decide) (br_t rfl (ax_co h8 hs ⟨aq_nar _, H⟩))))
  | 2, _ => exact br_f (by decide) (br_f (by decide) (br_f (by decide) (br_f (by decide) (br_t rfl (ax_pr h8 hs ⟨aq_nar _, H⟩)))))
  | 3, _ => exact br_f (by decide) (br_f (by decide) (br_f (by decide) (br_f (by decide) (br_f (by decide) (br_t rfl (ax_st h8 hs ⟨aq_nar _, H⟩))))))
  | 4, _ => exact br_f (by decide) (br_f (by decide) (br_f (by decide) (br_f (by decide) (br_f (by decide) (br_f (by decide) (br_t rfl (ax_sg h8 hs ⟨aq_nar _, H⟩)))))))
  | 5, _ => exact br_f (by decide) (br_f (by decide) (br_f (by decide) (br_f (by decide) (br_f (by decide) (br_f (by decide) (br_f (by decide) (br_t rfl (ax_ss h8 hs ⟨aq_nar _, H⟩))))))))
  | k + 6, hk => exact absurd hk (by omega)
end
end
section
/-! the reference's walks -/
section
variable {n : Nat} {p : Nat → Bool} {h : Nat → Nat → Bool} {post : Int32 → Prop} {pe ad co re : Nat → Int32}
abbrev aq_hs (h : Nat → Nat → Bool) : Nat → Int32 := fun i => aq_i (h (i / 8) (i % 8))
abbrev aq_v (n : Nat) (p : Nat → Bool) (h : Nat → Nat → Bool) (pe ad co re : Nat → Int32) : SY := (nI n, nI (aq_P n p), aq_hs h, pe, ad, co, re)
theorem aq_8 {a : Nat} {A B : Prop} (ha : a < 8) (H : B) : (8 ≤ nI a → A) ∧ (¬ 8 ≤ nI a → B) := br_f (nI_ge (b := 8) ha (by decide)) H
theorem ay_good {j : Nat} (h8 : n ≤ 8) (hj : j < n) (H : post 0) : wpY_bad post (aq_v n p h pe ad co re) (nI j) := br_f (nI_pos (by omega)) (br_f (nI_ge hj (by omega)) (br_t (nI_lt (b := 8) (by omega) (by decide)) H))
theorem ay_bad {x : Int32} (hx : x < 0 ∨ nI n ≤ x) (H : post 1) : wpY_bad post (aq_v n p h pe ad co re) x := by
  by_cases z : x < 0
  · exact br_t z H
  · rcases hx with w | w
    · exact absurd w z
    · exact br_f z (br_t w H)
theorem ay_in {s c : Nat} (hs : s < 2 ^ 31) (hc : c < 32) (H : post (aq_i (s.testBit c))) : wpY_in post (aq_v n p h pe ad co re) (nI s) (nI c) := aq_bp1 (aq_one hs hc) H
theorem aq_ix (a b : Nat) : (8 : Int32) * nI a + nI b = nI (8 * a + b) := by
  show nI 8 * nI a + nI b = _
  rw [pk_mul, nI_add]
theorem aq_hs_at {a b : Nat} (ha : a < 8) (hb : b < 8) : aq_hs h (nI (8 * a + b)).toNatClampNeg = aq_i (h a b) := by
  rw [nI_clamp (by omega)]
  show aq_i (h ((8 * a + b) / 8) ((8 * a + b) % 8)) = _
  rw [show (8 * a + b) / 8 = a by omega, show (8 * a + b) % 8 = b by omega]
theorem ay_str {a b : Nat} (h8 : n ≤ 8) (ha : a < n) (hb : b < n) (H : post (aq_i (aq_r p h a b))) : wpY_strikes post (aq_v n p h pe ad co re) (nI a) (nI b) := by
  unfold wpY_strikes aq_v
  dsimp only
  rw [aq_ix]
  refine ay_in (aq_31 h8 aq_P_lt) (by omega) ?_
  rw [aq_Pt ha]
  refine aq_bz (fun z => ?_) (fun z => ay_in (aq_31 h8 aq_P_lt) (by omega) ?_)
  · exact aq_pz H (by rw [aq_r, z, Bool.false_and, Bool.false_and])
  · rw [aq_Pt hb]
    refine aq_bz (fun z2 => ?_) (fun z2 => ⟨vp_in_nI (by omega) (by decide), aq_bp (aq_hs_at (by omega) (by omega)) ?_⟩)
    · exact aq_pz H (by rw [aq_r, z2, Bool.and_false, Bool.false_and])
    · rw [aq_r, z, z2, Bool.true_and, Bool.true_and] at H
      exact H
theorem ay_row {J : Int32 → Int32 → Prop} {s a acc : Nat} (h8 : n ≤ 8) (hs : s < 2 ^ n) (ha : a < n) (H : J (nI (acc ||| aq_mk n fun b => s.testBit a && aq_r p h a b)) (nI (a + 1))) : ∃ m, wY_attacked_21 post J (nI s) (nI a) (nI n) (nI (aq_P n p)) (aq_hs h) pe ad co re m (nI acc) 0 := by
  refine aq_up (W := wY_attacked_21 post J (nI s) (nI a) (nI n) (nI (aq_P n p)) (aq_hs h) pe ad co re) n (fun i => nI (acc ||| aq_mk i fun b => s.testBit a && aq_r p h a b)) (by rw [aq_mk, Nat.or_zero]) rfl (fun m => br_t (nI_le (Nat.le_refl n) (by omega)) (nm_r (nI_1 a) H)) (fun m i hi K => br_f (nI_ge hi (by omega)) (aq_8 (by omega) (ay_in (aq_31 h8 hs) (by omega) (aq_bz (fun z => nm_r (nI_1 i) ?_) (fun z => ay_str h8 ha hi (aq_bz (fun z2 => nm_r (nI_1 i) ?_) (fun z2 => nm_r ?_ (nm_r (nI_1 i) K))))))))
  · rw [aq_mk_f (by rw [z, Bool.false_and])] at K
    exact K
  · rw [aq_mk_f (by rw [z2, Bool.and_false])] at K
    exact K
  · rw [aq_pow (by omega), aq_nor, Nat.or_assoc, aq_mk_t (by rw [z, z2, Bool.and_true])]
theorem ay_att {s : Nat} (h8 : n ≤ 8) (hs : s < 2 ^ n) (H : post (nI (aq_A n p h s))) : wpY_attacked post (aq_v n p h pe ad co re) (nI s) := by
  unfold wpY_attacked aq_v
  dsimp only
  refine aq_up (W := wY_attacked_4 post (nI s) (nI n) (nI (aq_P n p)) (aq_hs h) pe ad co re) n (fun c => nI (aq_mk n fun b => aq_any c fun a => s.testBit a && aq_r p h a b)) ?_ rfl (fun m => br_t (nI_le (Nat.le_refl n) (by omega)) H) (fun m i hi K => br_f (nI_ge hi (by omega)) (aq_8 (by omega) (ay_row h8 hs hi ?_)))
  · show _ = nI (aq_mk n fun _ => false)
    rw [aq_mk_0]
    rfl
  · rw [aq_mk_or]
    exact K
theorem ay_drow {J : Int32 → Int32 → Prop} {s a acc : Nat} (h8 : n ≤ 8) (hs : s < 2 ^ n) (ha : a < n) (H : J (nI (aq_df acc (aq_mk n fun b => aq_r p h a b && !s.testBit a))) (nI (a + 1))) : ∃ m, wY_defends_33 post J (nI s) (nI a) (nI n) (nI (aq_P n p)) (aq_hs h) pe ad co re m (nI acc) 0 := by
  refine aq_up (W := wY_defends_33 post J (nI s) (nI a) (nI n) (nI (aq_P n p)) (aq_hs h) pe ad co re) n (fun i => nI (aq_df acc (aq_mk i fun b => aq_r p h a b && !s.testBit a))) (by rw [aq_mk, aq_df, Nat.and_zero, Nat.xor_zero]) rfl (fun m => br_t (nI_le (Nat.le_refl n) (by omega)) (nm_r (nI_1 a) H)) (fun m i hi K => br_f (nI_ge hi (by omega)) (aq_8 (by omega) (ay_str h8 ha hi (aq_bz (fun z => nm_r (nI_1 i) ?_) (fun z => ay_in (aq_31 h8 hs) (by omega) (aq_bz (fun z2 => nm_r ?_ (nm_r (nI_1 i) K)) (fun z2 => nm_r (nI_1 i) ?_)))))))
  · rw [aq_mk_f (by rw [z, Bool.false_and])] at K
    exact K
  · rw [aq_pow (by omega), aq_ndf, aq_df_or, aq_mk_t (by rw [z, z2]; rfl)]
  · rw [aq_mk_f (by rw [z2, Bool.not_true, Bool.and_false])] at K
    exact K
theorem aq_D_df (s : Nat) : aq_df (aq_P n p) (aq_mk n fun b => aq_any n fun a => aq_r p h a b && !(aq_A n p h s).testBit a) = aq_D n p h s := by
  rw [aq_D, aq_P]
  apply Nat.eq_of_testBit_eq
  intro i
  rw [aq_df_tb, aq_mk_tb, aq_mk_tb, aq_mk_tb]
  generalize (aq_any n fun a => aq_r p h a i && !(aq_A n p h s).testBit a) = z
  cases decide (i < n) <;> cases p i <;> cases z <;> rfl
theorem ay_def {s : Nat} (h8 : n ≤ 8) (hs : s < 2 ^ n) (H : post (nI (aq_D n p h s))) : wpY_defends post (aq_v n p h pe ad co re) (nI s) := by
  unfold wpY_defends aq_v
  dsimp only
  refine ay_att h8 hs ?_
  refine aq_up (W := wY_defends_14 post (nI (aq_A n p h s)) (nI n) (nI (aq_P n p)) (aq_hs h) pe ad co re) n (fun c => nI (aq_df (aq_P n p) (aq_mk n fun b => aq_any c fun a => aq_r p h a b && !(aq_A n p h s).testBit a))) ?_ rfl (fun m => br_t (nI_le (Nat.le_refl n) (by omega)) ?_) (fun m i hi K => br_f (nI_ge hi (by omega)) (aq_8 (by omega) (ay_drow h8 (aq_A_lt s) hi ?_)))
  · show _ = nI (aq_df (aq_P n p) (aq_mk n fun _ => false))
    rw [aq_mk_0, aq_df, Nat.and_zero, Nat.xor_zero]
  · rw [aq_D_df]
    exact H
  · rw [aq_df_or, aq_mk_or]
    exact K
theorem ay_part {s t : Nat} (hs : s < 2 ^ 31) (H : post (aq_i (aq_sb s t))) : wpY_part post (aq_v n p h pe ad co re) (nI s) (nI t) := aq_bc (aq_sub1 hs) H
theorem ay_pp {s t : Nat} (hs : s < 2 ^ 31) (ht : t < 2 ^ 31) (H : post (aq_i (aq_pp s t))) : wpY_properPart post (aq_v n p h pe ad co re) (nI s) (nI t) := by
  unfold wpY_properPart aq_v
  dsimp only
  refine pk_eq s t (fun e => ?_) (fun e => ?_) rfl rfl hs ht
  · exact aq_pz H (by rw [aq_pp, decide_eq_false (by simpa using e), Bool.false_and])
  · refine ay_part hs (aq_bp rfl ?_)
    rw [aq_pp, decide_eq_true e, Bool.true_and] at H
    exact H
/-- the tables are right below m -/
def aq_T (n : Nat) (p : Nat → Bool) (h : Nat → Nat → Bool) (m : Nat) (pe ad co re : Nat → Int32) : Prop := ∀ s, s < m → pe s = aq_i (aq_pf n p h s) ∧ ad s = aq_i (aq_ad n p h s) ∧ co s = aq_i (aq_co n p h s) ∧ re s = nI (aq_R n p h s)
theorem aq_T_up {m : Nat} (H : aq_T n p h m pe ad co re) : aq_T n p h (m + 1) (upd pe m (aq_i (aq_pf n p h m))) (upd ad m (aq_i (aq_ad n p h m))) (upd co m (aq_i (aq_co n p h m))) (upd re m (nI (aq_R n p h m))) := by
  intro s hs
  by_cases e : s = m
  · subst e
    exact ⟨pk_us, pk_us, pk_us, pk_us⟩
  · rw [pk_un e, pk_un e, pk_un e, pk_un e]
    exact H s (by omega)
theorem ay_101 {post : SY → Prop} {J : Int32 → (Nat → Int32) → (Nat → Int32) → (Nat → Int32) → (Nat → Int32) → (Nat → Int32) → Prop} {s : Nat} (h8 : n ≤ 8) (hs : s < 2 ^ n) (H : J (nI (s + 1)) (aq_hs h) pe (upd ad s (aq_i (aq_ad n p h s))) (upd co s (aq_i (aq_co n p h s))) re) : wY_tabulate_101 post J (nI s) (nI (aq_D n p h s)) (aq_i (aq_ad n p h s)) (nI s) (nI n) (nI (aq_P n p)) (aq_hs h) pe ad co re := by
  unfold wY_tabulate_101
  rw [nI_clamp (aq_31 h8 hs), aq_vnar, nI_1]
  have hi := aq_in h8 hs
  refine ⟨hi, nm_e ⟨hi, aq_bx pk_us (fun z => ⟨hi, nm_e (nm_e ?_)⟩) (fun z => ay_part (aq_31 h8 (aq_D_lt s)) (aq_bz (fun z2 => ⟨hi, nm_e (nm_e ?_)⟩) (fun z2 => ⟨hi, nm_e (nm_e ?_)⟩)))⟩⟩
  · rw [show aq_co n p h s = false by rw [aq_co, z, Bool.false_and]] at H
    exact H
  · rw [show aq_co n p h s = false by rw [aq_co, z2, Bool.and_false]] at H
    exact H
  · rw [show aq_co n p h s = true by rw [aq_co, z, z2, Bool.true_and]] at H
    exact H
theorem ay_62 {post : SY → Prop} {J : Int32 → (Nat → Int32) → (Nat → Int32) → (Nat → Int32) → (Nat → Int32) → (Nat → Int32) → Prop} {s : Nat} (h8 : n ≤ 8) (hs : s < 2 ^ n) (H : J (nI (s + 1)) (aq_hs h) (upd pe s (aq_i (aq_pf n p h s))) (upd ad s (aq_i (aq_ad n p h s))) (upd co s (aq_i (aq_co n p h s))) (upd re s (nI (aq_R n p h s)))) : wY_tabulate_62 post J (nI s) (nI (aq_A n p h s)) (nI (aq_D n p h s)) (aq_i (aq_pf n p h s)) (nI s) (nI n) (nI (aq_P n p)) (aq_hs h) pe ad co re := by
  unfold wY_tabulate_62 wY_tabulate_100
  rw [nI_clamp (aq_31 h8 hs), aq_vnar, aq_nor]
  have hi := aq_in h8 hs
  have K := ay_101 (post := post) (J := J) h8 hs H
  refine ⟨hi, nm_e ⟨hi, nm_e ⟨hi, aq_bx pk_us (fun z => ?_) (fun z => ay_part (aq_31 h8 hs) (aq_bz (fun z2 => ?_) (fun z2 => ?_)))⟩⟩⟩
  · rw [show aq_ad n p h s = false by rw [aq_ad, z, Bool.false_and]] at K
    exact K
  · rw [show aq_ad n p h s = false by rw [aq_ad, z2, Bool.and_false]] at K
    exact K
  · rw [show aq_ad n p h s = true by rw [aq_ad, z, z2, Bool.true_and]] at K
    exact K
theorem ay_tab1 {post : SY → Prop} (h8 : n ≤ 8) (H : ∀ pe ad co re, aq_T n p h (2 ^ n) pe ad co re → post (aq_v n p h pe ad co re)) : ∀ (d i : Nat) (pe ad co re : Nat → Int32), i + d = 2 ^ n → aq_T n p h i pe ad co re → wY_tabulate_2 post (nI n) (nI (aq_P n p)) (d + 1) (nI i) (aq_hs h) pe ad co re
  | 0, i, pe, ad, co, re, e, T => by
    have z : i = 2 ^ n := by omega
    subst z
    exact aq_end h8 (H pe ad co re T)
  | d + 1, i, pe, ad, co, re, e, T => by
    have hi : i < 2 ^ n := by omega
    have K := ay_62 (post := post) (J := wY_tabulate_2 post (nI n) (nI (aq_P n p)) (d + 1)) h8 hi (ay_tab1 h8 H d (i + 1) _ _ _ _ (by omega) (aq_T_up T))
    refine aq_ge h8 hi (aq_lim h8 hi (ay_part (aq_31 h8 hi) (ay_att h8 hi (ay_def h8 hi (aq_bz (fun z => ?_) (fun z => aq_if (b := aq_pf n p h i) ?_ (fun z2 => ?_) (fun z2 => ?_)))))))
    · rw [show aq_pf n p h i = false by rw [aq_pf, z, Bool.false_and]] at K
      exact K
    · rw [nx_and, aq_z (Nat.lt_of_le_of_lt Nat.and_le_right (aq_31 h8 hi)), aq_pf, z, Bool.true_and, decide_eq_true_iff, Nat.and_comm]
    · rw [z2] at K
      exact K
    · rw [z2] at K
      exact K
theorem ay_tab {post : SY → Prop} (h8 : n ≤ 8) (H : ∀ pe ad co re, aq_T n p h (2 ^ n) pe ad co re → post (aq_v n p h pe ad co re)) : wpY_tabulate post (aq_v n p h pe ad co re) := ⟨2 ^ n + 1, ay_tab1 h8 H (2 ^ n) 0 pe ad co re (by omega) fun s hs => absurd hs (by omega)⟩
end
end
section
/-! the reference's kinds, its least complete set; searches of both sides over one pure function -/
section
variable {n : Nat} {p : Nat → Bool} {h : Nat → Nat → Bool} {post : Int32 → Prop} {pe ad co re : Nat → Int32}
theorem aq_T_pe {s : Nat} (h8 : n ≤ 8) (T : aq_T n p h (2 ^ n) pe ad co re) (hs : s < 2 ^ n) : pe (nI s).toNatClampNeg = aq_i (aq_pf n p h s) := by
  rw [nI_clamp (aq_31 h8 hs)]
  exact (T s hs).1
theorem aq_T_ad {s : Nat} (h8 : n ≤ 8) (T : aq_T n p h (2 ^ n) pe ad co re) (hs : s < 2 ^ n) : ad (nI s).toNatClampNeg = aq_i (aq_ad n p h s) := by
  rw [nI_clamp (aq_31 h8 hs)]
  exact (T s hs).2.1
theorem aq_T_co {s : Nat} (h8 : n ≤ 8) (T : aq_T n p h (2 ^ n) pe ad co re) (hs : s < 2 ^ n) : co (nI s).toNatClampNeg = aq_i (aq_co n p h s) := by
  rw [nI_clamp (aq_31 h8 hs)]
  exact (T s hs).2.2.1
theorem aq_T_re {s : Nat} (h8 : n ≤ 8) (T : aq_T n p h (2 ^ n) pe ad co re) (hs : s < 2 ^ n) : re (nI s).toNatClampNeg = nI (aq_R n p h s) := by
  rw [nI_clamp (aq_31 h8 hs)]
  exact (T s hs).2.2.2
theorem ay_of_pr {s : Nat} (h8 : n ≤ 8) (T : aq_T n p h (2 ^ n) pe ad co re) (hs : s < 2 ^ n) (H : post (aq_i (!aq_any (2 ^ n) fun t => aq_ad n p h t && aq_pp s t))) : ∃ m, wY_of_106 post 2 (nI s) (nI n) (nI (aq_P n p)) (aq_hs h) pe ad co re m 0 := by
  refine aq_scan (W := wY_of_106 post 2 (nI s) (nI n) (nI (aq_P n p)) (aq_hs h) pe ad co re) (2 ^ n) (fun t => aq_ad n p h t && aq_pp s t) rfl (fun K m => aq_end h8 K) (fun m i hi K1 K2 => aq_ge h8 hi (aq_lim h8 hi (br_t rfl ⟨aq_in h8 hi, aq_bx (aq_T_ad h8 T hi) (fun z => br_f (by decide) (br_f (by decide) (nm_r (nI_1 i) (K2 ?_)))) (fun z => ay_pp (aq_31 h8 hs) (aq_31 h8 hi) (aq_bz (fun z2 => br_f (by decide) (br_f (by decide) (nm_r (nI_1 i) (K2 ?_)))) (fun z2 => K1 ?_)))⟩))) (aq_sc H)
  · rw [z, Bool.false_and]
  · rw [z2, Bool.and_false]
  · rw [z, z2, Bool.and_true]
theorem ay_of_sg {s : Nat} (h8 : n ≤ 8) (T : aq_T n p h (2 ^ n) pe ad co re) (hs : s < 2 ^ n) (H : post (aq_i (!aq_any (2 ^ n) fun t => aq_pf n p h t && aq_pp (aq_R n p h s) (aq_R n p h t)))) : ∃ m, wY_of_106 post 4 (nI s) (nI n) (nI (aq_P n p)) (aq_hs h) pe ad co re m 0 := by
  refine aq_scan (W := wY_of_106 post 4 (nI s) (nI n) (nI (aq_P n p)) (aq_hs h) pe ad co re) (2 ^ n) (fun t => aq_pf n p h t && aq_pp (aq_R n p h s) (aq_R n p h t)) rfl (fun K m => aq_end h8 K) (fun m i hi K1 K2 => aq_ge h8 hi (aq_lim h8 hi (br_f (by decide) (br_t rfl ⟨aq_in h8 hi, aq_bx (aq_T_pe h8 T hi) (fun z => br_f (by decide) (nm_r (nI_1 i) (K2 ?_))) (fun z => ⟨aq_in h8 hs, aq_in h8 hi, ?_⟩)⟩)))) (aq_sc H)
  · rw [z, Bool.false_and]
  · rw [aq_T_re h8 T hi, aq_T_re h8 T hs]
    refine ay_pp (aq_31 h8 (aq_R_lt hs)) (aq_31 h8 (aq_R_lt hi)) (aq_bz (fun z2 => br_f (by decide) (nm_r (nI_1 i) (K2 ?_))) (fun z2 => K1 ?_))
    · rw [z2, Bool.and_false]
    · rw [z, z2, Bool.and_true]
theorem ay_of_ss {s : Nat} (h8 : n ≤ 8) (T : aq_T n p h (2 ^ n) pe ad co re) (hs : s < 2 ^ n) (H : post (aq_i (!aq_any (2 ^ n) fun t => aq_co n p h t && aq_pp (aq_R n p h s) (aq_R n p h t)))) : ∃ m, wY_of_106 post 5 (nI s) (nI n) (nI (aq_P n p)) (aq_hs h) pe ad co re m 0 := by
  refine aq_scan (W := wY_of_106 post 5 (nI s) (nI n) (nI (aq_P n p)) (aq_hs h) pe ad co re) (2 ^ n) (fun t => aq_co n p h t && aq_pp (aq_R n p h s) (aq_R n p h t)) rfl (fun K m => aq_end h8 K) (fun m i hi K1 K2 => aq_ge h8 hi (aq_lim h8 hi (br_f (by decide) (br_f (by decide) (br_t rfl ⟨aq_in h8 hi, aq_bx (aq_T_co h8 T hi) (fun z => nm_r (nI_1 i) (K2 ?_)) (fun z => ⟨aq_in h8 hs, aq_in h8 hi, ?_⟩)⟩))))) (aq_sc H)
  · rw [z, Bool.false_and]
  · rw [aq_T_re h8 T hi, aq_T_re h8 T hs]
    refine ay_pp (aq_31 h8 (aq_R_lt hs)) (aq_31 h8 (aq_R_lt hi)) (aq_bz (fun z2 => nm_r (nI_1 i) (K2 ?_)) (fun z2 => K1 ?_))
    · rw [z2, Bool.and_false]
    · rw [z, z2, Bool.and_true]
theorem ay_kd {k s : Nat} (h8 : n ≤ 8) (T : aq_T n p h (2 ^ n) pe ad co re) (hk : k < 6) (hs : s < 2 ^ n) (H : post (aq_i (aq_kd n p h k s))) : wpY_of post (aq_v n p h pe ad co re) (nI k) (nI s) := by
  unfold wpY_of aq_v
  dsimp only
  have hi := aq_in h8 hs
  match k, hk with
  | 0, _ =>
    refine br_t rfl ⟨hi, ?_⟩
    rw [aq_T_ad h8 T hs]
    exact ⟨aq_nar _, H⟩
  | 1, _ =>
    refine br_f (by decide) (br_t rfl ⟨hi, ?_⟩)
    rw [aq_T_co h8 T hs]
    exact ⟨aq_nar _, H⟩
  | 2, _ =>
    refine br_f (by decide) (br_f (by decide) (br_f (by decide) (br_t rfl ⟨hi, aq_bx (aq_T_ad h8 T hs) (fun z => ?_) (fun z => br_f (by decide) (br_f (by decide) (ay_of_pr h8 T hs ?_)))⟩)))
    · exact aq_pz H (show aq_pr n p h s = false by rw [aq_pr, z, Bool.false_and])
    · have e : aq_kd n p h 2 s = aq_pr n p h s := rfl
      rw [e, aq_pr, z, Bool.true_and] at H
      exact H
  | 3, _ =>
    refine br_f (by decide) (br_f (by decide) (br_t rfl ⟨hi, aq_bx (aq_T_pe h8 T hs) (fun z => ?_) (fun z => ⟨hi, aq_bc (b := aq_st n p h s) ?_ H⟩)⟩))
    · exact aq_pz H (show aq_st n p h s = false by rw [aq_st, z, Bool.false_and])
    · rw [aq_T_re h8 T hs, nI_eq (aq_31 h8 (aq_R_lt hs)) (aq_31 h8 aq_P_lt), aq_st, z, Bool.true_and, decide_eq_true_iff]
  | 4, _ =>
    refine br_f (by decide) (br_f (by decide) (br_f (by decide) (br_f (by decide) (br_t rfl ⟨hi, aq_bx (aq_T_pe h8 T hs) (fun z => ?_) (fun z => br_f (by decide) (ay_of_sg h8 T hs ?_))⟩))))
    · exact aq_pz H (show aq_sg n p h s = false by rw [aq_sg, z, Bool.false_and])
    · have e : aq_kd n p h 4 s = aq_sg n p h s := rfl
      rw [e, aq_sg, z, Bool.true_and] at H
      exact H
  | 5, _ =>
    refine br_f (by decide) (br_f (by decide) (br_f (by decide) (br_f (by decide) (br_f (by decide) (br_t rfl ⟨hi, aq_bx (aq_T_co h8 T hs) (fun z => ?_) (fun z => ay_of_ss h8 T hs ?_)⟩)))))
    · exact aq_pz H (show aq_ss n p h s = false by rw [aq_ss, z, Bool.false_and])
    · have e : aq_kd n p h 5 s = aq_ss n p h s := rfl
      rw [e, aq_ss, z, Bool.true_and] at H
      exact H
  | k + 6, hk => exact absurd hk (by omega)
/-- the inner search of least: x2 ends as aq_below -/
theorem ay_below {J : Int32 → Prop} {s : Nat} (h8 : n ≤ 8) (T : aq_T n p h (2 ^ n) pe ad co re) (hs : s < 2 ^ n) (H : wY_least_71 post J (nI s) (aq_i (aq_below n p h s)) (nI n) (nI (aq_P n p)) (aq_hs h) pe ad co re) : ∃ m, wY_least_28 post J (nI s) (nI n) (nI (aq_P n p)) (aq_hs h) pe ad co re m (aq_i (aq_co n p h s)) 0 := by
  refine aq_up (W := wY_least_28 post J (nI s) (nI n) (nI (aq_P n p)) (aq_hs h) pe ad co re) (2 ^ n) (fun i => aq_i (aq_co n p h s && !aq_any i fun t => aq_co n p h t && !aq_sb s t)) (by rw [aq_any, Bool.not_false, Bool.and_true]) rfl (fun m => aq_end h8 H) (fun m i hi K => aq_ge h8 hi (aq_lim h8 hi ⟨aq_in h8 hi, aq_bx (aq_T_co h8 T hi) (fun z => nm_r (nI_1 i) ?_) (fun z => ay_part (aq_31 h8 hs) (aq_bz (fun z2 => nm_r (nI_1 i) ?_) (fun z2 => nm_r (nI_1 i) ?_)))⟩))
  · rw [aq_any, z, Bool.false_and, Bool.or_false] at K
    exact K
  · rw [aq_any, z, z2, Bool.not_false, Bool.true_and, Bool.or_true, Bool.not_true, Bool.and_false] at K
    exact K
  · rw [aq_any, z2, Bool.not_true, Bool.and_false, Bool.or_false] at K
    exact K
theorem ay_least1 (h8 : n ≤ 8) (T : aq_T n p h (2 ^ n) pe ad co re) (H : post (nI (aq_g n p h n))) : ∀ d i, i + d = aq_g n p h n → wY_least_2 post (nI n) (nI (aq_P n p)) (aq_hs h) pe ad co re (d + 1) (nI i)
  | 0, i, e => by
    have hg : i = aq_g n p h n := by omega
    have hi : i < 2 ^ n := by rw [hg]; exact aq_g_lt n
    refine aq_ge h8 hi (aq_lim h8 hi ⟨aq_in h8 hi, nm_r (aq_T_co h8 T hi) (ay_below h8 T hi ?_)⟩)
    rw [show aq_below n p h i = true by rw [hg]; exact aq_below_g]
    refine br_f (by decide) ?_
    rw [hg]
    exact H
  | d + 1, i, e => by
    have hi : i < 2 ^ n := by have := aq_g_lt (n := n) (p := p) (h := h) n; omega
    refine aq_ge h8 hi (aq_lim h8 hi ⟨aq_in h8 hi, nm_r (aq_T_co h8 T hi) (ay_below h8 T hi ?_)⟩)
    rw [aq_below_no (show i ≠ aq_g n p h n by omega)]
    exact br_t rfl (nm_r (nI_1 i) (ay_least1 h8 T H d (i + 1) (by omega)))
theorem ay_least (h8 : n ≤ 8) (T : aq_T n p h (2 ^ n) pe ad co re) (H : post (nI (aq_g n p h n))) : wpY_least post (aq_v n p h pe ad co re) := ⟨_, ay_least1 h8 T H (aq_g n p h n) 0 (by omega)⟩
theorem ax_gr (h8 : n ≤ 8) (H : post (nI (aq_g n p h n))) : wpX_grounded post (aq_u n p h) := by
  unfold wpX_grounded aq_u
  dsimp only
  refine aq_up (W := wX_grounded_4 post (nI n) (nI (2 ^ n)) (nI (aq_P n p)) (aq_t n h)) n (fun i => nI (aq_g n p h i)) rfl rfl (fun m => br_t (nI_le (Nat.le_refl n) (by omega)) H) (fun m i hi K => br_f (nI_ge hi (by omega)) (ax_def h8 (aq_g_lt i) (aq_pf_P (aq_ad_pf (aq_g_ad i))) (nm_r (nI_1 i) K)))
/-! counting -/
def aq_cnt (f : Nat → Bool) : Nat → Nat → Int32 → Int32
  | 0, _, x => x
  | d + 1, i, x => aq_cnt f d (i + 1) (if f i then x + 1 else x)
theorem ax_cnt {k : Nat} (h8 : n ≤ 8) (hk : k < 6) : ∀ d i x, i + d = 2 ^ n → post (aq_cnt (aq_kd n p h k) d i x) → wX_count_14 post (nI k) (nI n) (nI (2 ^ n)) (nI (aq_P n p)) (aq_t n h) (d + 1) x (nI i)
  | 0, i, x, e, H => by
    have z : i = 2 ^ n := by omega
    subst z
    exact br_t (nI_le (Nat.le_refl _) (aq_31e h8)) H
  | d + 1, i, x, e, H => by
    have hi : i < 2 ^ n := by omega
    refine br_f (nI_ge hi (aq_31e h8)) (ax_kd h8 hk hi (aq_bz (fun z => nm_r (nI_1 i) (ax_cnt h8 hk d (i + 1) x (by omega) ?_)) (fun z => nm_e (nm_r (nI_1 i) (ax_cnt h8 hk d (i + 1) (x + 1) (by omega) ?_)))))
    · rw [aq_cnt, z] at H
      exact H
    · rw [aq_cnt, z] at H
      exact H
theorem ay_cnt {post : Int32 → SY → Prop} {k : Nat} (h8 : n ≤ 8) (T : aq_T n p h (2 ^ n) pe ad co re) (hk : k < 6) : ∀ d i x, i + d = 2 ^ n → post (aq_cnt (aq_kd n p h k) d i x) (aq_v n p h pe ad co re) → wY_count_18 post (nI k) (nI n) (nI (aq_P n p)) (aq_hs h) pe ad co re (d + 1) x (nI i)
  | 0, i, x, e, H => by
    have z : i = 2 ^ n := by omega
    subst z
    exact aq_end h8 H
  | d + 1, i, x, e, H => by
    have hi : i < 2 ^ n := by omega
    refine aq_ge h8 hi (ay_kd h8 T hk hi (aq_bz (fun z => nm_r (nI_1 i) (ay_cnt h8 T hk d (i + 1) x (by omega) ?_)) (fun z => nm_e (nm_r (nI_1 i) (ay_cnt h8 T hk d (i + 1) (x + 1) (by omega) ?_)))))
    · rw [aq_cnt, z] at H
      exact H
    · rw [aq_cnt, z] at H
      exact H
/-! the nth -/
def aq_nth (f : Nat → Bool) (y : Int32) : Nat → Nat → Int32 → Int32
  | 0, _, _ => -2
  | d + 1, i, x => if f i then (if x = y then nI i else aq_nth f y d (i + 1) (x + 1)) else aq_nth f y d (i + 1) x
theorem ax_nth {k : Nat} {y : Int32} (h8 : n ≤ 8) (hk : k < 6) : ∀ d i x, i + d = 2 ^ n → post (aq_nth (aq_kd n p h k) y d i x) → wX_nth_15 post (nI k) y (nI n) (nI (2 ^ n)) (nI (aq_P n p)) (aq_t n h) (d + 1) x (nI i)
  | 0, i, x, e, H => by
    have z : i = 2 ^ n := by omega
    subst z
    exact br_t (nI_le (Nat.le_refl _) (aq_31e h8)) H
  | d + 1, i, x, e, H => by
    have hi : i < 2 ^ n := by omega
    rw [aq_nth] at H
    refine br_f (nI_ge hi (aq_31e h8)) (ax_kd h8 hk hi (aq_bz (fun z => nm_r (nI_1 i) (ax_nth h8 hk d (i + 1) x (by omega) ?_)) (fun z => br_c (fun w => ?_) (fun w => nm_e (nm_r (nI_1 i) (ax_nth h8 hk d (i + 1) (x + 1) (by omega) ?_))))))
    · rw [z] at H
      exact H
    · rw [z, if_pos rfl, if_pos w] at H
      exact H
    · rw [z, if_pos rfl, if_neg w] at H
      exact H
theorem ay_nth {post : Int32 → SY → Prop} {k : Nat} {y : Int32} (h8 : n ≤ 8) (T : aq_T n p h (2 ^ n) pe ad co re) (hk : k < 6) : ∀ d i x, i + d = 2 ^ n → post (aq_nth (aq_kd n p h k) y d i x) (aq_v n p h pe ad co re) → wY_nth_19 post (nI k) y (nI n) (nI (aq_P n p)) (aq_hs h) pe ad co re (d + 1) x (nI i)
  | 0, i, x, e, H => by
    have z : i = 2 ^ n := by omega
    subst z
    exact aq_end h8 H
  | d + 1, i, x, e, H => by
    have hi : i < 2 ^ n := by omega
    rw [aq_nth] at H
    refine aq_ge h8 hi (ay_kd h8 T hk hi (aq_bz (fun z => nm_r (nI_1 i) (ay_nth h8 T hk d (i + 1) x (by omega) ?_)) (fun z => br_c (fun w => ?_) (fun w => nm_e (nm_r (nI_1 i) (ay_nth h8 T hk d (i + 1) (x + 1) (by omega) ?_))))))
    · rw [z] at H
      exact H
    · rw [z, if_pos rfl, if_pos w] at H
      exact H
    · rw [z, if_pos rfl, if_neg w] at H
      exact H
end
end
section
/-! what all sets of a kind share; the ideal set -/
def aq_cm (o : Option Nat) (i : Nat) : Nat := match o with
  | none => i
  | some m => m &&& i
def aq_shr (f : Nat → Bool) : Nat → Nat → Option Nat → Option Nat
  | 0, _, o => o
  | d + 1, i, o => aq_shr f d (i + 1) (if f i then some (aq_cm o i) else o)
def aq_oX (P : Nat) (o : Option Nat) : Int32 := match o with
  | none => nI P
  | some m => nI m
def aq_oF (o : Option Nat) : Int32 := match o with
  | none => 1
  | some _ => 0
def aq_oY (o : Option Nat) : Int32 := match o with
  | none => -2
  | some m => nI m
theorem aq_oX_st {P i : Nat} (hi : aq_sb i P = true) (o : Option Nat) : aq_oX P o &&& nI i = aq_oX P (some (aq_cm o i)) := by
  cases o with
  | none =>
    show nI P &&& nI i = nI i
    rw [nx_and, Nat.and_comm]
    rw [aq_sb, decide_eq_true_iff] at hi
    rw [hi]
  | some m => exact nx_and m i
theorem aq_sb_and {C m i : Nat} (H : aq_sb C (m &&& i) = true) : aq_sb C m = true ∧ aq_sb C i = true := by
  rw [aq_sb_iff] at H
  constructor
  · refine aq_sb_iff.mpr fun j hj => ?_
    have z := H j hj
    rw [Nat.testBit_and, Bool.and_eq_true] at z
    exact z.1
  · refine aq_sb_iff.mpr fun j hj => ?_
    have z := H j hj
    rw [Nat.testBit_and, Bool.and_eq_true] at z
    exact z.2
theorem aq_shr_some (f : Nat → Bool) : ∀ d i m, ∃ C, aq_shr f d i (some m) = some C ∧ aq_sb C m = true ∧ ∀ t, i ≤ t → t < i + d → f t = true → aq_sb C t = true
  | 0, i, m => ⟨m, rfl, aq_sb_rfl m, fun t h1 h2 => absurd h1 (by omega)⟩
  | d + 1, i, m => by
    cases e : f i with
    | false =>
      obtain ⟨C, h1, h2, h3⟩ := aq_shr_some f d (i + 1) m
      refine ⟨C, by rw [aq_shr, e]; exact h1, h2, fun t h4 h5 h6 => ?_⟩
      by_cases w : t = i
      · rw [w, e] at h6
        exact absurd h6 (by decide)
      · exact h3 t (by omega) (by omega) h6
    | true =>
      obtain ⟨C, h1, h2, h3⟩ := aq_shr_some f d (i + 1) (m &&& i)
      refine ⟨C, by rw [aq_shr, e]; exact h1, (aq_sb_and h2).1, fun t h4 h5 h6 => ?_⟩
      by_cases w : t = i
      · rw [w]
        exact (aq_sb_and h2).2
      · exact h3 t (by omega) (by omega) h6
theorem aq_shr_none (f : Nat → Bool) : ∀ d i, (∃ t, i ≤ t ∧ t < i + d ∧ f t = true) → ∃ C, aq_shr f d i none = some C ∧ ∀ t, i ≤ t → t < i + d → f t = true → aq_sb C t = true
  | 0, i, ⟨t, h1, h2, _⟩ => absurd h1 (by omega)
  | d + 1, i, ⟨t, h1, h2, h3⟩ => by
    cases e : f i with
    | false =>
      have w : t ≠ i := by
        intro w
        rw [w, e] at h3
        exact absurd h3 (by decide)
      obtain ⟨C, h4, h5⟩ := aq_shr_none f d (i + 1) ⟨t, by omega, by omega, h3⟩
      refine ⟨C, by rw [aq_shr, e]; exact h4, fun t h6 h7 h8 => ?_⟩
      by_cases w : t = i
      · rw [w, e] at h8
        exact absurd h8 (by decide)
      · exact h5 t (by omega) (by omega) h8
    | true =>
      obtain ⟨C, h4, h5, h6⟩ := aq_shr_some f d (i + 1) i
      refine ⟨C, by rw [aq_shr, e]; exact h4, fun t h7 h8 h9 => ?_⟩
      by_cases w : t = i
      · rw [w]
        exact h5
      · exact h6 t (by omega) (by omega) h9
section
variable {n : Nat} {p : Nat → Bool} {h : Nat → Nat → Bool} {post : Int32 → Prop} {pe ad co re : Nat → Int32}
theorem aq_pr_P {s : Nat} (z : aq_pr n p h s = true) : aq_sb s (aq_P n p) = true := aq_pf_P (aq_ad_pf (aq_pr_iff.mp z).1)
theorem aq_kd_P {k s : Nat} (hk : k < 6) (z : aq_kd n p h k s = true) : aq_sb s (aq_P n p) = true := by
  match k, hk with
  | 0, _ => exact aq_pf_P (aq_ad_pf z)
  | 1, _ => exact aq_pf_P (aq_co_pf z)
  | 2, _ => exact aq_pr_P z
  | 3, _ =>
    have z : aq_st n p h s = true := z
    rw [aq_st, Bool.and_eq_true] at z
    exact aq_pf_P z.1
  | 4, _ =>
    have z : aq_sg n p h s = true := z
    rw [aq_sg, Bool.and_eq_true] at z
    exact aq_pf_P z.1
  | 5, _ =>
    have z : aq_ss n p h s = true := z
    rw [aq_ss, Bool.and_eq_true] at z
    exact aq_pf_P (aq_co_pf z.1)
  | k + 6, hk => exact absurd hk (by omega)
theorem ax_core {k : Nat} (h8 : n ≤ 8) (hk : k < 6) : ∀ d i o, i + d = 2 ^ n → post (aq_oY (aq_shr (aq_kd n p h k) d i o)) → wX_core_20 post (nI k) (nI n) (nI (2 ^ n)) (nI (aq_P n p)) (aq_t n h) (d + 1) (aq_oX (aq_P n p) o) (aq_oF o) (nI i)
  | 0, i, o, e, H => by
    have z : i = 2 ^ n := by omega
    subst z
    refine br_t (nI_le (Nat.le_refl _) (aq_31e h8)) ?_
    cases o with
    | none => exact br_f (by decide) H
    | some m => exact br_t rfl H
  | d + 1, i, o, e, H => by
    have hi : i < 2 ^ n := by omega
    rw [aq_shr] at H
    refine br_f (nI_ge hi (aq_31e h8)) (ax_kd h8 hk hi (aq_bz (fun z => nm_r (nI_1 i) (ax_core h8 hk d (i + 1) o (by omega) ?_)) (fun z => nm_r (aq_oX_st (aq_kd_P hk z) o) (nm_r (nI_1 i) (ax_core h8 hk d (i + 1) (some (aq_cm o i)) (by omega) ?_)))))
    · rw [z] at H
      exact H
    · rw [z] at H
      exact H
theorem aq_cm_lt {o : Option Nat} {i : Nat} (hi : i < 2 ^ n) : aq_cm o i < 2 ^ n := by
  cases o with
  | none => exact hi
  | some m => exact Nat.lt_of_le_of_lt Nat.and_le_right hi
theorem aq_nm2 {m : Nat} (hm : m < 2 ^ 31) : ¬ nI m = -2 := by
  intro e
  have z := nI_pos hm
  rw [e] at z
  exact absurd z (by decide)
theorem ay_shr {k : Nat} (h8 : n ≤ 8) (T : aq_T n p h (2 ^ n) pe ad co re) (hk : k < 6) : ∀ d i o, i + d = 2 ^ n → (∀ m, o = some m → m < 2 ^ n) → post (aq_oY (aq_shr (aq_kd n p h k) d i o)) → wY_shared_5 post (nI k) (nI n) (nI (aq_P n p)) (aq_hs h) pe ad co re (d + 1) (aq_oY o) (nI i)
  | 0, i, o, e, _, H => by
    have z : i = 2 ^ n := by omega
    subst z
    exact aq_end h8 H
  | d + 1, i, o, e, ho, H => by
    have hi : i < 2 ^ n := by omega
    rw [aq_shr] at H
    refine aq_ge h8 hi (ay_kd h8 T hk hi (aq_bz (fun z => nm_r (nI_1 i) (ay_shr h8 T hk d (i + 1) o (by omega) ho ?_)) (fun z => ?_)))
    · rw [z] at H
      exact H
    · have K := ay_shr h8 T hk d (i + 1) (some (aq_cm o i)) (by omega) (fun m hm => by cases hm; exact aq_cm_lt hi) (by rw [z] at H; exact H)
      cases o with
      | none => exact br_t rfl (nm_r (nI_1 i) K)
      | some m => exact br_f (aq_nm2 (aq_31 h8 (ho m rfl))) (nm_r (nx_and m i) (nm_r (nI_1 i) K))
theorem ay_shared {k : Nat} (h8 : n ≤ 8) (T : aq_T n p h (2 ^ n) pe ad co re) (hk : k < 6) (H : post (aq_oY (aq_shr (aq_kd n p h k) (2 ^ n) 0 none))) : wpY_shared post (aq_v n p h pe ad co re) (nI k) := ⟨_, ay_shr h8 T hk (2 ^ n) 0 none (by omega) (fun m hm => nomatch hm) H⟩
/-! ideal -/
theorem ax_id2 {C m : Nat} (h8 : n ≤ 8) (hm : m < 2 ^ n) (hf : (aq_sb m C && aq_ad n p h m) = true) (hl : ∀ j, m < j → j < 2 ^ n → (aq_sb j C && aq_ad n p h j) = false) (H : post (nI m)) : ∀ d i x, i + d = 2 ^ n → (m < i → x = nI m) → wX_ideal_37 post (nI C) (nI n) (nI (2 ^ n)) (nI (aq_P n p)) (aq_t n h) (d + 1) x (nI i)
  | 0, i, x, e, hx => by
    have z : i = 2 ^ n := by omega
    subst z
    refine br_t (nI_le (Nat.le_refl _) (aq_31e h8)) ?_
    rw [hx hm]
    exact H
  | d + 1, i, x, e, hx => by
    have hi : i < 2 ^ n := by omega
    have ke : (aq_sb i C && aq_ad n p h i) = false → m < i + 1 → x = nI m := by
      intro w w2
      refine hx ?_
      rcases Nat.lt_or_ge m i with y | y
      · exact y
      · have e2 : i = m := by omega
        rw [e2, hf] at w
        exact absurd w (by decide)
    refine br_f (nI_ge hi (aq_31e h8)) (ax_part (aq_31 h8 hi) (aq_bz (fun z => nm_r (nI_1 i) (ax_id2 h8 hm hf hl H d (i + 1) x (by omega) (ke ?_))) (fun z => ax_ad h8 hi (aq_bz (fun z2 => nm_r (nI_1 i) (ax_id2 h8 hm hf hl H d (i + 1) x (by omega) (ke ?_))) (fun z2 => nm_r (nI_1 i) (ax_id2 h8 hm hf hl H d (i + 1) (nI i) (by omega) fun w => ?_))))))
    · rw [z, Bool.false_and]
    · rw [z2, Bool.and_false]
    · rcases Nat.lt_or_ge m i with y | y
      · have q := hl i y hi
        rw [z, z2] at q
        exact absurd q (by decide)
      · rw [show i = m by omega]
theorem ax_id1 {C m : Nat} (h8 : n ≤ 8) (hm : m < 2 ^ n) (hf : (aq_sb m C && aq_ad n p h m) = true) (hl : ∀ j, m < j → j < 2 ^ n → (aq_sb j C && aq_ad n p h j) = false) (H : post (nI m)) : ∀ d i o, i + d = 2 ^ n → aq_shr (aq_pr n p h) d i o = some C → wX_ideal_7 post (nI n) (nI (2 ^ n)) (nI (aq_P n p)) (aq_t n h) (d + 1) (aq_oX (aq_P n p) o) (nI i)
  | 0, i, o, e, hC => by
    have z : i = 2 ^ n := by omega
    subst z
    have ho : o = some C := hC
    subst ho
    exact br_t (nI_le (Nat.le_refl _) (aq_31e h8)) ⟨_, ax_id2 h8 hm hf hl H (2 ^ n) 0 0 (by omega) fun w => absurd w (by omega)⟩
  | d + 1, i, o, e, hC => by
    have hi : i < 2 ^ n := by omega
    rw [aq_shr] at hC
    refine br_f (nI_ge hi (aq_31e h8)) (ax_pr h8 hi (aq_bz (fun z => nm_r (nI_1 i) (ax_id1 h8 hm hf hl H d (i + 1) o (by omega) ?_)) (fun z => nm_r (aq_oX_st (aq_pr_P z) o) (nm_r (nI_1 i) (ax_id1 h8 hm hf hl H d (i + 1) (some (aq_cm o i)) (by omega) ?_)))))
    · rw [z] at hC
      exact hC
    · rw [z] at hC
      exact hC
theorem ay_over {post : Int32 → SY → Prop} {J : Int32 → Prop} {C m : Nat} (h8 : n ≤ 8) (T : aq_T n p h (2 ^ n) pe ad co re) (hall : ∀ t, t < 2 ^ n → aq_ad n p h t = true → aq_sb t C = true → aq_sb t m = true) (H : post (nI m) (aq_v n p h pe ad co re)) : ∃ f, wY_ideal_53 post J (nI C) (nI m) (nI n) (nI (aq_P n p)) (aq_hs h) pe ad co re f 1 0 := by
  refine aq_up (W := wY_ideal_53 post J (nI C) (nI m) (nI n) (nI (aq_P n p)) (aq_hs h) pe ad co re) (2 ^ n) (fun _ => 1) rfl rfl (fun f => aq_end h8 (br_f (by decide) H)) (fun f i hi K => aq_ge h8 hi (aq_lim h8 hi ⟨aq_in h8 hi, aq_bx (aq_T_ad h8 T hi) (fun z => nm_r (nI_1 i) K) (fun z => ay_part (aq_31 h8 hi) (aq_bz (fun z2 => nm_r (nI_1 i) K) (fun z2 => ay_part (aq_31 h8 hi) (aq_bz (fun z3 => ?_) (fun z3 => nm_r (nI_1 i) K)))))⟩))
  rw [hall i hi z z2] at z3
  exact absurd z3 (by decide)
theorem ay_id {post : Int32 → SY → Prop} {C m : Nat} (h8 : n ≤ 8) (T : aq_T n p h (2 ^ n) pe ad co re) (hf : (aq_sb m C && aq_ad n p h m) = true) (hl : ∀ j, m < j → j < 2 ^ n → (aq_sb j C && aq_ad n p h j) = false) (hall : ∀ t, t < 2 ^ n → aq_ad n p h t = true → aq_sb t C = true → aq_sb t m = true) (H : post (nI m) (aq_v n p h pe ad co re)) : ∀ d, m + d < 2 ^ n → wY_ideal_19 post (nI C) (nI n) (nI (aq_P n p)) (aq_hs h) pe ad co re (d + 1) (nI (m + d))
  | 0, hi => by
    rw [Bool.and_eq_true] at hf
    have hi : m < 2 ^ n := hi
    refine br_f (nI_pos (aq_31 h8 hi)) (aq_lim h8 hi ⟨aq_in h8 hi, aq_bx (aq_T_ad h8 T hi) (fun z => ?_) (fun z => ay_part (aq_31 h8 hi) (aq_bz (fun z2 => ?_) (fun z2 => ay_over h8 T hall H)))⟩)
    · rw [Nat.add_zero, hf.2] at z
      exact absurd z (by decide)
    · rw [Nat.add_zero, hf.1] at z2
      exact absurd z2 (by decide)
  | d + 1, hi => by
    have q := hl (m + (d + 1)) (by omega) hi
    have K := ay_id (post := post) h8 T hf hl hall H d (by omega)
    refine br_f (nI_pos (aq_31 h8 hi)) (aq_lim h8 hi ⟨aq_in h8 hi, aq_bx (aq_T_ad h8 T hi) (fun z => nm_r (pk_m1 (m + d)) K) (fun z => ay_part (aq_31 h8 hi) (aq_bz (fun z2 => nm_r (pk_m1 (m + d)) K) (fun z2 => ?_)))⟩)
    rw [z, z2] at q
    exact absurd q (by decide)
theorem a_ideal (h8 : n ≤ 8) (pe ad co re : Nat → Int32) : ∃ r, (∀ post : Int32 → Prop, post r → wpX_ideal post (aq_u n p h)) ∧ (∀ post : Int32 → SY → Prop, (∀ pe ad co re, post r (aq_v n p h pe ad co re)) → wpY_ideal post (aq_v n p h pe ad co re)) := by
  obtain ⟨q, hq, hp⟩ := aq_pr_ex (n := n) (p := p) (h := h)
  obtain ⟨C, hC, hCt⟩ := aq_shr_none (aq_pr n p h) (2 ^ n) 0 ⟨q, by omega, by omega, hp⟩
  have hCt : ∀ t, t < 2 ^ n → aq_pr n p h t = true → aq_sb C t = true := fun t ht => hCt t (by omega) (by omega)
  obtain ⟨m, hm, hf, hl⟩ := aq_last (fun j => aq_sb j C && aq_ad n p h j) (2 ^ n) ⟨0, Nat.two_pow_pos n, by rw [aq_ad0, Bool.and_true]; exact aq_sb_iff.mpr fun i hi => by rw [Nat.zero_testBit] at hi; exact absurd hi (by decide)⟩
  have hf2 := hf
  rw [Bool.and_eq_true] at hf2
  have hall : ∀ t, t < 2 ^ n → aq_ad n p h t = true → aq_sb t C = true → aq_sb t m = true := fun t ht h1 h2 => aq_ideal hCt hm hf2.2 hf2.1 hl ht h1 h2
  refine ⟨nI m, fun post H => ?_, fun post H => ?_⟩
  · unfold wpX_ideal aq_u
    dsimp only
    exact ⟨_, ax_id1 h8 hm hf hl H (2 ^ n) 0 none (by omega) hC⟩
  · unfold wpY_ideal aq_v
    dsimp only
    refine ay_tab h8 fun pe ad co re T => ?_
    refine ay_shared (k := 2) h8 T (by decide) ?_
    rw [show aq_kd n p h 2 = aq_pr n p h from rfl, hC]
    refine nm_r (e' := nI (m + (2 ^ n - 1 - m))) ?_ ⟨_, ay_id h8 T hf hl hall (H pe ad co re) (2 ^ n - 1 - m) (by omega)⟩
    rw [aq_pow (by omega), show m + (2 ^ n - 1 - m) = 2 ^ n - 1 by omega]
    exact pk_sub (b := 1) (Nat.two_pow_pos n)
end
end
section
/-! the public methods: one answer for both sides -/
section
variable {n : Nat} {p : Nat → Bool} {h : Nat → Nat → Bool} {post : Int32 → Prop} {pe ad co re : Nat → Int32}
theorem aq_yes {b : Bool} {A B : Prop} (e : b = true) (H : B) : (aq_i b = 0 → A) ∧ (¬ aq_i b = 0 → B) := aq_bz (fun z => absurd (e.symm.trans z) (by decide)) (fun _ => H)
theorem aq_no {b : Bool} {A B : Prop} (e : b = false) (H : A) : (aq_i b = 0 → A) ∧ (¬ aq_i b = 0 → B) := aq_bz (fun _ => H) (fun z => absurd (e.symm.trans z) (by decide))
theorem aq_6 {x : Int32} (z : nI 6 ≤ x) : 5 < x := by
  rw [Int32.le_iff_toInt_le, show (nI 6).toInt = 6 by decide] at z
  rw [Int32.lt_iff_toInt_lt, show (5 : Int32).toInt = 5 by decide]
  omega
theorem ax_kok {k : Nat} (hk : k < 6) (H : post 1) : wpX_isKind post (aq_u n p h) (nI k) := br_f (nI_pos (by omega)) (br_f (nI_nlt (b := k) (a := 5) (by omega) (by decide)) H)
theorem ax_kno {x : Int32} (hx : x < 0 ∨ nI 6 ≤ x) (H : post 0) : wpX_isKind post (aq_u n p h) x := by
  by_cases z : x < 0
  · exact br_t z H
  · rcases hx with w | w
    · exact absurd w z
    · exact br_f z (br_t (aq_6 w) H)
theorem ay_kok {k : Nat} (hk : k < 6) (H : post 0) : wpY_badKind post (aq_v n p h pe ad co re) (nI k) := br_f (nI_pos (by omega)) (br_t (nI_le (a := k) (b := 5) (by omega) (by decide)) H)
theorem ay_kno {x : Int32} (hx : x < 0 ∨ nI 6 ≤ x) (H : post 1) : wpY_badKind post (aq_v n p h pe ad co re) x := by
  by_cases z : x < 0
  · exact br_t z H
  · rcases hx with w | w
    · exact absurd w z
    · exact br_f z (br_f (Int32.not_le.mpr (aq_6 w)) H)
theorem aq_k (x : Int32) : (x < 0 ∨ nI 6 ≤ x) ∨ ∃ j : Nat, j < 6 ∧ x = nI j := by
  rcases pk_ix x (n := 6) (by decide) with z | z | z
  · exact Or.inl (Or.inl z)
  · exact Or.inl (Or.inr z)
  · exact Or.inr z
theorem aq_c (x : Int32) (h8 : n ≤ 8) : (x < 0 ∨ nI n ≤ x) ∨ ∃ j : Nat, j < n ∧ x = nI j := by
  rcases pk_ix x (n := n) (by omega) with z | z | z
  · exact Or.inl (Or.inl z)
  · exact Or.inl (Or.inr z)
  · exact Or.inr z
theorem aq_s (x : Int32) (h8 : n ≤ 8) : (x < 0 ∨ nI (2 ^ n) ≤ x) ∨ ∃ j : Nat, j < 2 ^ n ∧ x = nI j := by
  rcases pk_ix x (n := 2 ^ n) (aq_31e h8) with z | z | z
  · exact Or.inl (Or.inl z)
  · exact Or.inl (Or.inr z)
  · exact Or.inr z
theorem ax_fno {x : Int32} (hx : x < 0 ∨ nI (2 ^ n) ≤ x) (H : post (-2)) : wpX_faultOf post (aq_u n p h) x := by
  by_cases z : x < 0
  · exact br_t z H
  · rcases hx with w | w
    · exact absurd w z
    · exact br_f z (br_f (Int32.not_lt.mpr w) H)
theorem ax_fout {s : Nat} (h8 : n ≤ 8) (hs : s < 2 ^ n) (z : aq_sb s (aq_P n p) = false) (H : post (-3)) : wpX_faultOf post (aq_u n p h) (nI s) := by
  unfold wpX_faultOf aq_u
  dsimp only
  refine br_f (nI_pos (aq_31 h8 hs)) (br_t (nI_lt hs (aq_31e h8)) (ax_part (aq_31 h8 hs) ?_))
  rw [z]
  exact br_t rfl H
theorem ax_fok {s : Nat} (h8 : n ≤ 8) (hs : s < 2 ^ n) (z : aq_sb s (aq_P n p) = true) (H : post 0) : wpX_faultOf post (aq_u n p h) (nI s) := by
  unfold wpX_faultOf aq_u
  dsimp only
  refine br_f (nI_pos (aq_31 h8 hs)) (br_t (nI_lt hs (aq_31e h8)) (ax_part (aq_31 h8 hs) ?_))
  rw [z]
  exact br_f (by decide) H
theorem ay_sno {x : Int32} (h8 : n ≤ 8) (hx : x < 0 ∨ nI (2 ^ n) ≤ x) (H : post 1) : wpY_badSet post (aq_v n p h pe ad co re) x := by
  unfold wpY_badSet aq_v
  dsimp only
  rw [aq_pow (by omega)]
  by_cases z : x < 0
  · exact br_t z H
  · rcases hx with w | w
    · exact absurd w z
    · exact br_f z (br_f (Int32.not_lt.mpr w) H)
theorem ay_sok {s : Nat} (h8 : n ≤ 8) (hs : s < 2 ^ n) (H : post 0) : wpY_badSet post (aq_v n p h pe ad co re) (nI s) := by
  unfold wpY_badSet aq_v
  dsimp only
  rw [aq_pow (by omega)]
  exact br_f (nI_pos (aq_31 h8 hs)) (br_t (nI_lt hs (aq_31e h8)) H)
/-- one answer: X's walk from u, Y's walk from v into a state of the same picture -/
def aq_both (n : Nat) (p : Nat → Bool) (h : Nat → Nat → Bool) (WX : (Int32 → Prop) → Prop) (WY : (Int32 → SY → Prop) → Prop) : Prop := ∃ r, (∀ post : Int32 → Prop, post r → WX post) ∧ (∀ post : Int32 → SY → Prop, (∀ pe ad co re, post r (aq_v n p h pe ad co re)) → WY post)
theorem a_grounded (h8 : n ≤ 8) : aq_both n p h (fun post => wpX_grounded post (aq_u n p h)) (fun post => wpY_grounded post (aq_v n p h pe ad co re)) := by
  refine ⟨nI (aq_g n p h n), fun post H => ax_gr h8 H, fun post H => ?_⟩
  dsimp only
  unfold wpY_grounded aq_v
  dsimp only
  exact ay_tab h8 fun pe ad co re T => ay_least h8 T (H pe ad co re)
theorem a_label (h8 : n ≤ 8) (x : Int32) : aq_both n p h (fun post => wpX_groundedLabel post (aq_u n p h) x) (fun post => wpY_groundedLabel post (aq_v n p h pe ad co re) x) := by
  unfold aq_both
  dsimp only
  unfold wpX_groundedLabel wpY_groundedLabel aq_u aq_v
  dsimp only
  rcases aq_c x h8 with z | ⟨c, hc, rfl⟩
  · exact ⟨-1, fun post H => ax_bad z (br_t rfl H), fun post H => ay_bad z (br_f (by decide) (H _ _ _ _))⟩
  · have hP := aq_P_lt (n := n) (p := p)
    have hg := aq_g_lt (n := n) (p := p) (h := h) n
    have hgP := aq_pf_P (aq_ad_pf (aq_g_ad (n := n) (p := p) (h := h) n))
    cases e1 : (aq_P n p).testBit c with
    | false => exact ⟨-2, fun post H => ax_good h8 hc (br_f (by decide) (ax_has h8 hP hc (aq_no e1 (H)))), fun post H => ay_good h8 hc (br_t rfl (ay_in (aq_31 h8 hP) (by omega) (aq_no e1 (H _ _ _ _))))⟩
    | true =>
      cases e2 : (aq_g n p h n).testBit c with
      | true => exact ⟨0, fun post H => ax_good h8 hc (br_f (by decide) (ax_has h8 hP hc (aq_yes e1 (ax_gr h8 (ax_has h8 hg hc (aq_yes e2 (H))))))), fun post H => ay_good h8 hc (br_t rfl (ay_in (aq_31 h8 hP) (by omega) (aq_yes e1 (ay_tab h8 fun pe ad co re T => ay_least h8 T (ay_in (aq_31 h8 hg) (by omega) (aq_yes e2 (H _ _ _ _)))))))⟩
      | false =>
        have hA := aq_A_lt (n := n) (p := p) (h := h) (aq_g n p h n)
        cases e3 : (aq_A n p h (aq_g n p h n)).testBit c with
        | true => exact ⟨1, fun post H => ax_good h8 hc (br_f (by decide) (ax_has h8 hP hc (aq_yes e1 (ax_gr h8 (ax_has h8 hg hc (aq_no e2 (ax_att h8 hg (by rw [aq_X_A hgP]; exact ax_has h8 hA hc (aq_yes e3 (H)))))))))), fun post H => ay_good h8 hc (br_t rfl (ay_in (aq_31 h8 hP) (by omega) (aq_yes e1 (ay_tab h8 fun pe ad co re T => ay_least h8 T (ay_in (aq_31 h8 hg) (by omega) (aq_no e2 (ay_att h8 hg (ay_in (aq_31 h8 hA) (by omega) (aq_yes e3 (H _ _ _ _))))))))))⟩
        | false => exact ⟨2, fun post H => ax_good h8 hc (br_f (by decide) (ax_has h8 hP hc (aq_yes e1 (ax_gr h8 (ax_has h8 hg hc (aq_no e2 (ax_att h8 hg (by rw [aq_X_A hgP]; exact ax_has h8 hA hc (aq_no e3 (H)))))))))), fun post H => ay_good h8 hc (br_t rfl (ay_in (aq_31 h8 hP) (by omega) (aq_yes e1 (ay_tab h8 fun pe ad co re T => ay_least h8 T (ay_in (aq_31 h8 hg) (by omega) (aq_no e2 (ay_att h8 hg (ay_in (aq_31 h8 hA) (by omega) (aq_no e3 (H _ _ _ _))))))))))⟩
theorem a_is (h8 : n ≤ 8) (x y : Int32) : aq_both n p h (fun post => wpX_is post (aq_u n p h) x y) (fun post => wpY_is post (aq_v n p h pe ad co re) x y) := by
  unfold aq_both
  dsimp only
  unfold wpX_is wpY_is aq_u aq_v
  dsimp only
  rcases aq_k x with z | ⟨k, hk, rfl⟩
  · exact ⟨-1, fun post H => ax_kno z (br_t rfl H), fun post H => ay_kno z (br_f (by decide) (H _ _ _ _))⟩
  · rcases aq_s y h8 with z | ⟨s, hs, rfl⟩
    · exact ⟨-2, fun post H => ax_kok hk (br_f (by decide) (ax_fno z (br_f (by decide) H))), fun post H => ay_kok hk (br_t rfl (ay_sno h8 z (br_f (by decide) (H _ _ _ _))))⟩
    · cases e : aq_sb s (aq_P n p) with
      | false => exact ⟨-3, fun post H => ax_kok hk (br_f (by decide) (ax_fout h8 hs e (br_f (by decide) H))), fun post H => ay_kok hk (br_t rfl (ay_sok h8 hs (br_t rfl (ay_part (aq_31 h8 hs) (aq_no e (H _ _ _ _))))))⟩
      | true => exact ⟨aq_i (aq_kd n p h k s), fun post H => ax_kok hk (br_f (by decide) (ax_fok h8 hs e (br_t rfl (ax_kd h8 hk hs (aq_bp rfl H))))), fun post H => ay_kok hk (br_t rfl (ay_sok h8 hs (br_t rfl (ay_part (aq_31 h8 hs) (aq_yes e (ay_tab h8 fun pe ad co re T => ay_kd h8 T hk hs (aq_bp (post := fun r => post r (aq_v n p h pe ad co re)) rfl (H pe ad co re))))))))⟩
theorem a_count (h8 : n ≤ 8) (x : Int32) : aq_both n p h (fun post => wpX_count post (aq_u n p h) x) (fun post => wpY_count post (aq_v n p h pe ad co re) x) := by
  unfold aq_both
  dsimp only
  unfold wpX_count wpY_count aq_u aq_v
  dsimp only
  rcases aq_k x with z | ⟨k, hk, rfl⟩
  · exact ⟨-1, fun post H => ax_kno z (br_t rfl H), fun post H => ay_kno z (br_f (by decide) (H _ _ _ _))⟩
  · exact ⟨aq_cnt (aq_kd n p h k) (2 ^ n) 0 0, fun post H => ax_kok hk (br_f (by decide) ⟨_, ax_cnt h8 hk (2 ^ n) 0 0 (by omega) H⟩), fun post H => ay_kok hk (br_t rfl (ay_tab h8 fun pe ad co re T => ⟨_, ay_cnt h8 T hk (2 ^ n) 0 0 (by omega) (H pe ad co re)⟩))⟩
theorem a_nth (h8 : n ≤ 8) (x y : Int32) : aq_both n p h (fun post => wpX_nth post (aq_u n p h) x y) (fun post => wpY_nth post (aq_v n p h pe ad co re) x y) := by
  unfold aq_both
  dsimp only
  unfold wpX_nth wpY_nth aq_u aq_v
  dsimp only
  rcases aq_k x with z | ⟨k, hk, rfl⟩
  · exact ⟨-1, fun post H => ax_kno z (br_t rfl H), fun post H => ay_kno z (br_f (by decide) (H _ _ _ _))⟩
  · exact ⟨aq_nth (aq_kd n p h k) y (2 ^ n) 0 0, fun post H => ax_kok hk (br_f (by decide) ⟨_, ax_nth h8 hk (2 ^ n) 0 0 (by omega) H⟩), fun post H => ay_kok hk (br_t rfl (ay_tab h8 fun pe ad co re T => ⟨_, ay_nth h8 T hk (2 ^ n) 0 0 (by omega) (H pe ad co re)⟩))⟩
theorem a_core (h8 : n ≤ 8) (x : Int32) : aq_both n p h (fun post => wpX_core post (aq_u n p h) x) (fun post => wpY_core post (aq_v n p h pe ad co re) x) := by
  unfold aq_both
  dsimp only
  unfold wpX_core wpY_core aq_u aq_v
  dsimp only
  rcases aq_k x with z | ⟨k, hk, rfl⟩
  · exact ⟨-1, fun post H => ax_kno z (br_t rfl H), fun post H => ay_kno z (br_f (by decide) (H _ _ _ _))⟩
  · exact ⟨aq_oY (aq_shr (aq_kd n p h k) (2 ^ n) 0 none), fun post H => ax_kok hk (br_f (by decide) ⟨_, ax_core h8 hk (2 ^ n) 0 none (by omega) H⟩), fun post H => ay_kok hk (br_t rfl (ay_tab h8 fun pe ad co re T => ay_shared h8 T hk (H pe ad co re)))⟩
theorem a_possible (h8 : n ≤ 8) (x y : Int32) : aq_both n p h (fun post => wpX_possible post (aq_u n p h) x y) (fun post => wpY_possible post (aq_v n p h pe ad co re) x y) := by
  unfold aq_both
  dsimp only
  unfold wpX_possible wpY_possible aq_u aq_v
  dsimp only
  rcases aq_k x with z | ⟨k, hk, rfl⟩
  · exact ⟨-1, fun post H => ax_kno z (br_t rfl H), fun post H => ay_kno z (br_f (by decide) (H _ _ _ _))⟩
  · rcases aq_c y h8 with z | ⟨c, hc, rfl⟩
    · exact ⟨-2, fun post H => ax_kok hk (br_f (by decide) (ax_bad z (br_t rfl H))), fun post H => ay_kok hk (br_t rfl (ay_bad z (br_f (by decide) (H _ _ _ _))))⟩
    · refine ⟨if aq_any (2 ^ n) (fun t => t.testBit c && aq_kd n p h k t) then 1 else 0, fun post H => ax_kok hk (br_f (by decide) (ax_good h8 hc (br_f (by decide) ?_))), fun post H => ay_kok hk (br_t rfl (ay_good h8 hc (br_t rfl (ay_tab h8 fun pe ad co re T => ?_))))⟩
      · refine aq_scan (W := wX_possible_23 post (nI k) (nI c) (nI n) (nI (2 ^ n)) (nI (aq_P n p)) (aq_t n h)) (2 ^ n) (fun t => t.testBit c && aq_kd n p h k t) rfl (fun K m => br_t (nI_le (Nat.le_refl _) (aq_31e h8)) K) (fun m i hi K1 K2 => br_f (nI_ge hi (aq_31e h8)) (ax_has h8 hi hc (aq_bz (fun z => nm_r (nI_1 i) (K2 ?_)) (fun z => ax_kd h8 hk hi (aq_bz (fun z2 => nm_r (nI_1 i) (K2 ?_)) (fun z2 => K1 ?_)))))) H
        · rw [z, Bool.false_and]
        · rw [z2, Bool.and_false]
        · rw [z, z2, Bool.and_true]
      · refine aq_scan (W := wY_possible_27 post (nI k) (nI c) (nI n) (nI (aq_P n p)) (aq_hs h) pe ad co re) (post := fun r => post r (aq_v n p h pe ad co re)) (2 ^ n) (fun t => t.testBit c && aq_kd n p h k t) rfl (fun K m => aq_end h8 K) (fun m i hi K1 K2 => aq_ge h8 hi (ay_in (aq_31 h8 hi) (by omega) (aq_bz (fun z => nm_r (nI_1 i) (K2 ?_)) (fun z => ay_kd h8 T hk hi (aq_bz (fun z2 => nm_r (nI_1 i) (K2 ?_)) (fun z2 => K1 ?_)))))) (H pe ad co re)
        · rw [z, Bool.false_and]
        · rw [z2, Bool.and_false]
        · rw [z, z2, Bool.and_true]
theorem a_certain (h8 : n ≤ 8) (x y : Int32) : aq_both n p h (fun post => wpX_certain post (aq_u n p h) x y) (fun post => wpY_certain post (aq_v n p h pe ad co re) x y) := by
  unfold aq_both
  dsimp only
  unfold wpX_certain wpY_certain aq_u aq_v
  dsimp only
  rcases aq_k x with z | ⟨k, hk, rfl⟩
  · exact ⟨-1, fun post H => ax_kno z (br_t rfl H), fun post H => ay_kno z (br_f (by decide) (H _ _ _ _))⟩
  · rcases aq_c y h8 with z | ⟨c, hc, rfl⟩
    · exact ⟨-2, fun post H => ax_kok hk (br_f (by decide) (ax_bad z (br_t rfl H))), fun post H => ay_kok hk (br_t rfl (ay_bad z (br_f (by decide) (H _ _ _ _))))⟩
    · refine ⟨if aq_any (2 ^ n) (fun t => !t.testBit c && aq_kd n p h k t) then 0 else 1, fun post H => ax_kok hk (br_f (by decide) (ax_good h8 hc (br_f (by decide) ?_))), fun post H => ay_kok hk (br_t rfl (ay_good h8 hc (br_t rfl (ay_tab h8 fun pe ad co re T => ?_))))⟩
      · refine aq_scan (W := wX_certain_23 post (nI k) (nI c) (nI n) (nI (2 ^ n)) (nI (aq_P n p)) (aq_t n h)) (2 ^ n) (fun t => !t.testBit c && aq_kd n p h k t) rfl (fun K m => br_t (nI_le (Nat.le_refl _) (aq_31e h8)) K) (fun m i hi K1 K2 => br_f (nI_ge hi (aq_31e h8)) (ax_has h8 hi hc (aq_bz (fun z => ax_kd h8 hk hi (aq_bz (fun z2 => nm_r (nI_1 i) (K2 ?_)) (fun z2 => K1 ?_))) (fun z => nm_r (nI_1 i) (K2 ?_))))) H
        · rw [z2, Bool.and_false]
        · rw [z, z2]; rfl
        · rw [z]; rfl
      · refine aq_scan (W := wY_certain_27 post (nI k) (nI c) (nI n) (nI (aq_P n p)) (aq_hs h) pe ad co re) (post := fun r => post r (aq_v n p h pe ad co re)) (2 ^ n) (fun t => !t.testBit c && aq_kd n p h k t) rfl (fun K m => aq_end h8 K) (fun m i hi K1 K2 => aq_ge h8 hi (ay_in (aq_31 h8 hi) (by omega) (aq_bz (fun z => ay_kd h8 T hk hi (aq_bz (fun z2 => nm_r (nI_1 i) (K2 ?_)) (fun z2 => K1 ?_))) (fun z => nm_r (nI_1 i) (K2 ?_))))) (H pe ad co re)
        · rw [z2, Bool.and_false]
        · rw [z, z2]; rfl
        · rw [z]; rfl
/-- the same, for the reference's methods that only read -/
def aq_read (WX WY : (Int32 → Prop) → Prop) : Prop := ∃ r, (∀ post : Int32 → Prop, post r → WX post) ∧ (∀ post : Int32 → Prop, post r → WY post)
theorem a_range (h8 : n ≤ 8) (x : Int32) : aq_read (fun post => wpX_range post (aq_u n p h) x) (fun post => wpY_range post (aq_v n p h pe ad co re) x) := by
  unfold aq_read
  dsimp only
  unfold wpX_range wpY_range aq_u aq_v
  dsimp only
  rcases aq_s x h8 with z | ⟨s, hs, rfl⟩
  · exact ⟨-2, fun post H => ax_fno z (br_f (by decide) H), fun post H => ay_sno h8 z (br_f (by decide) H)⟩
  · cases e : aq_sb s (aq_P n p) with
    | false => exact ⟨-3, fun post H => ax_fout h8 hs e (br_f (by decide) H), fun post H => ay_sok h8 hs (br_t rfl (ay_part (aq_31 h8 hs) (aq_no e (H))))⟩
    | true => exact ⟨nI (s ||| aq_A n p h s), fun post H => ax_fok h8 hs e (br_t rfl (ax_rng h8 hs (by rw [aq_X_A e]; exact H))), fun post H => ay_sok h8 hs (br_t rfl (ay_part (aq_31 h8 hs) (aq_yes e (ay_att h8 hs (by rw [aq_nor]; exact H)))))⟩
theorem a_defended (h8 : n ≤ 8) (x : Int32) : aq_read (fun post => wpX_defended post (aq_u n p h) x) (fun post => wpY_defended post (aq_v n p h pe ad co re) x) := by
  unfold aq_read
  dsimp only
  unfold wpX_defended wpY_defended aq_u aq_v
  dsimp only
  rcases aq_s x h8 with z | ⟨s, hs, rfl⟩
  · exact ⟨-2, fun post H => ax_fno z (br_f (by decide) H), fun post H => ay_sno h8 z (br_f (by decide) H)⟩
  · cases e : aq_sb s (aq_P n p) with
    | false => exact ⟨-3, fun post H => ax_fout h8 hs e (br_f (by decide) H), fun post H => ay_sok h8 hs (br_t rfl (ay_part (aq_31 h8 hs) (aq_no e (H))))⟩
    | true => exact ⟨nI (aq_D n p h s), fun post H => ax_fok h8 hs e (br_t rfl (ax_def h8 hs e H)), fun post H => ay_sok h8 hs (br_t rfl (ay_part (aq_31 h8 hs) (aq_yes e (ay_def h8 hs H))))⟩
end
end
section
/-! the stores: one bit of a set, one place of the attacks; a new object -/
theorem aq_mk_in {n b : Nat} (f : Nat → Bool) (hb : b < n) : aq_mk n f ||| 2 ^ b = aq_mk n fun y => if y = b then true else f y := by
  apply Nat.eq_of_testBit_eq
  intro i
  rw [Nat.testBit_or, aq_mk_tb, aq_mk_tb, Nat.testBit_two_pow]
  by_cases e : i = b
  · subst e
    simp [hb]
  · have e2 : ¬ b = i := fun w => e w.symm
    simp [e, e2]
theorem aq_mk_out {n b : Nat} (f : Nat → Bool) (hb : b < n) : aq_df (aq_mk n f) (2 ^ b) = aq_mk n fun y => if y = b then false else f y := by
  apply Nat.eq_of_testBit_eq
  intro i
  rw [aq_df_tb, aq_mk_tb, aq_mk_tb, Nat.testBit_two_pow]
  by_cases e : i = b
  · subst e
    simp
  · have e2 : ¬ b = i := fun w => e w.symm
    simp [e, e2]
/-- the attacks with one place changed -/
def aq_put (h : Nat → Nat → Bool) (a b : Nat) (v : Bool) : Nat → Nat → Bool := fun x y => if x = a then (if y = b then v else h x y) else h x y
theorem aq_t_in {n a b : Nat} (h : Nat → Nat → Bool) (hb : b < n) : upd (aq_t n h) a (nI (aq_mk n (h a) ||| 2 ^ b)) = aq_t n (aq_put h a b true) := by
  funext c
  by_cases e : c = a
  · subst e
    rw [pk_us, aq_mk_in _ hb]
    refine congrArg nI (aq_mk_ext fun y _ => ?_)
    rw [aq_put, if_pos rfl]
  · rw [pk_un e]
    refine congrArg nI (aq_mk_ext fun y _ => ?_)
    rw [aq_put, if_neg e]
theorem aq_t_out {n a b : Nat} (h : Nat → Nat → Bool) (hb : b < n) : upd (aq_t n h) a (nI (aq_df (aq_mk n (h a)) (2 ^ b))) = aq_t n (aq_put h a b false) := by
  funext c
  by_cases e : c = a
  · subst e
    rw [pk_us, aq_mk_out _ hb]
    refine congrArg nI (aq_mk_ext fun y _ => ?_)
    rw [aq_put, if_pos rfl]
  · rw [pk_un e]
    refine congrArg nI (aq_mk_ext fun y _ => ?_)
    rw [aq_put, if_neg e]
theorem aq_hs_put {a b : Nat} (h : Nat → Nat → Bool) (hb : b < 8) (v : Bool) : upd (aq_hs h) (8 * a + b) (aq_i v) = aq_hs (aq_put h a b v) := by
  funext i
  by_cases e : i = 8 * a + b
  · subst e
    rw [pk_us]
    refine congrArg aq_i ?_
    rw [aq_put, if_pos (by omega), if_pos (by omega)]
  · rw [pk_un e]
    refine congrArg aq_i ?_
    rw [aq_put]
    by_cases e1 : i / 8 = a
    · rw [if_pos e1, if_neg (by omega)]
    · rw [if_neg e1]
section
variable {n : Nat} {p : Nat → Bool} {h : Nat → Nat → Bool} {post : Int32 → Prop} {pe ad co re : Nat → Int32}
theorem aq_t_at {a b : Nat} (h8 : n ≤ 8) (ha : a < n) (hb : b < n) : (aq_t n h (nI a).toNatClampNeg >>> (nI b &&& 31)) &&& 1 = aq_i (h a b) := by
  rw [nI_clamp (by omega)]
  show (nI (aq_mk n (h a)) >>> (nI b &&& 31)) &&& 1 = _
  rw [aq_one (aq_31 h8 (aq_mk_lt _ _)) (by omega), aq_mk_tb, decide_eq_true hb, Bool.true_and]
theorem ax_attacks {a b : Nat} (h8 : n ≤ 8) (ha : a < n) (hb : b < n) (H : post (aq_i (h a b))) : wpX_attacks post (aq_u n p h) (nI a) (nI b) := by
  unfold wpX_attacks aq_u
  dsimp only
  refine ax_good h8 ha (br_f (by decide) (ax_good h8 hb (br_f (by decide) ⟨vp_in_nI (by omega) (by decide), ?_⟩)))
  rw [aq_t_at h8 ha hb]
  exact H
theorem ax_attacks_no {x y : Int32} (h8 : n ≤ 8) (hz : (x < 0 ∨ nI n ≤ x) ∨ (y < 0 ∨ nI n ≤ y)) (H : post (-1)) : wpX_attacks post (aq_u n p h) x y := by
  unfold wpX_attacks aq_u
  dsimp only
  rcases aq_c x h8 with z | ⟨a, ha, rfl⟩
  · exact ax_bad z (br_t rfl H)
  · refine ax_good h8 ha (br_f (by decide) ?_)
    rcases hz with z | z
    · rcases z with z | z
      · exact absurd z (nI_pos (by omega))
      · exact absurd z (nI_ge ha (by omega))
    · exact ax_bad z (br_t rfl H)
theorem aq_i0 (b : Bool) : 0 ≤ aq_i b := by cases b <;> decide
theorem a_attacks (h8 : n ≤ 8) (x y : Int32) : aq_read (fun post => wpX_attacks post (aq_u n p h) x y) (fun post => wpY_attacks post (aq_v n p h pe ad co re) x y) := by
  unfold aq_read
  dsimp only
  unfold wpY_attacks aq_v
  dsimp only
  rcases aq_c x h8 with z | ⟨a, ha, rfl⟩
  · exact ⟨-1, fun post H => ax_attacks_no h8 (Or.inl z) H, fun post H => ay_bad z (br_f (by decide) H)⟩
  · rcases aq_c y h8 with z | ⟨b, hb, rfl⟩
    · exact ⟨-1, fun post H => ax_attacks_no h8 (Or.inr z) H, fun post H => ay_good h8 ha (br_t rfl (ay_bad z (br_f (by decide) H)))⟩
    · refine ⟨aq_i (h a b), fun post H => ax_attacks h8 ha hb H, fun post H => ay_good h8 ha (br_t rfl (ay_good h8 hb (br_t rfl ?_)))⟩
      rw [aq_ix]
      exact ⟨vp_in_nI (by omega) (by decide), aq_bp (aq_hs_at (by omega) (by omega)) H⟩
/-- one answer, and one new picture for both -/
def aq_new (n : Nat) (pe ad co re : Nat → Int32) (WX : (Int32 → SX → Prop) → Prop) (WY : (Int32 → SY → Prop) → Prop) : Prop := ∃ r p' h', (∀ post : Int32 → SX → Prop, post r (aq_u n p' h') → WX post) ∧ (∀ post : Int32 → SY → Prop, post r (aq_v n p' h' pe ad co re) → WY post)
theorem a_attack (h8 : n ≤ 8) (x y f : Int32) : aq_new n pe ad co re (fun post => wpX_attack post (aq_u n p h) x y f) (fun post => wpY_attack post (aq_v n p h pe ad co re) x y f) := by
  unfold aq_new
  dsimp only
  unfold wpX_attack wpY_attack
  dsimp only
  rcases aq_c x h8 with z | ⟨a, ha, rfl⟩
  · exact ⟨-1, p, h, fun post H => ax_attacks_no h8 (Or.inl z) (br_f (by decide) H), fun post H => ay_bad z (br_f (by decide) H)⟩
  · rcases aq_c y h8 with z | ⟨b, hb, rfl⟩
    · exact ⟨-1, p, h, fun post H => ax_attacks_no h8 (Or.inr z) (br_f (by decide) H), fun post H => ay_good h8 ha (br_t rfl (ay_bad z (br_f (by decide) H)))⟩
    · have h1 : vp_in (nI a) 8 := vp_in_nI (by omega) (by decide)
      have h2 : vp_in (nI (8 * a + b)) 64 := vp_in_nI (by omega) (by decide)
      by_cases w : f = 0
      · refine ⟨aq_i (h a b), p, aq_put h a b false, fun post H => ax_attacks h8 ha hb (br_t (aq_i0 _) (br_t w ⟨h1, h1, nm_r ?_ H⟩)), fun post H => ay_good h8 ha (br_t rfl (ay_good h8 hb (br_t rfl ?_)))⟩
        · rw [nI_clamp (by omega), aq_pow (by omega), ← aq_t_out h hb]
          exact congrArg _ (aq_ndf _ _)
        · rw [aq_ix]
          have K : ∀ z0, post z0 (aq_v n p (aq_put h a b false) pe ad co re) → wY_attack_37 post (nI a) (nI b) f z0 (nI n) (nI (aq_P n p)) (aq_hs h) pe ad co re := by
            intro z0 H0
            unfold wY_attack_37
            rw [aq_ix, nI_clamp (by omega)]
            exact br_t w ⟨h2, nm_r (aq_hs_put h (by omega) false) H0⟩
          refine ⟨h2, aq_bx (aq_hs_at (by omega) (by omega)) (fun z => K 0 ?_) (fun z => K 1 ?_)⟩
          · rw [z] at H
            exact H
          · rw [z] at H
            exact H
      · refine ⟨aq_i (h a b), p, aq_put h a b true, fun post H => ax_attacks h8 ha hb (br_t (aq_i0 _) (br_f w ⟨h1, h1, nm_r ?_ H⟩)), fun post H => ay_good h8 ha (br_t rfl (ay_good h8 hb (br_t rfl ?_)))⟩
        · rw [nI_clamp (by omega), aq_pow (by omega), ← aq_t_in h hb]
          exact congrArg _ (aq_nor _ _)
        · rw [aq_ix]
          have K : ∀ z0, post z0 (aq_v n p (aq_put h a b true) pe ad co re) → wY_attack_37 post (nI a) (nI b) f z0 (nI n) (nI (aq_P n p)) (aq_hs h) pe ad co re := by
            intro z0 H0
            unfold wY_attack_37
            rw [aq_ix, nI_clamp (by omega)]
            exact br_f w ⟨h2, nm_r (aq_hs_put h (by omega) true) H0⟩
          refine ⟨h2, aq_bx (aq_hs_at (by omega) (by omega)) (fun z => K 0 ?_) (fun z => K 1 ?_)⟩
          · rw [z] at H
            exact H
          · rw [z] at H
            exact H
theorem a_play (h8 : n ≤ 8) (x f : Int32) : aq_new n pe ad co re (fun post => wpX_play post (aq_u n p h) x f) (fun post => wpY_play post (aq_v n p h pe ad co re) x f) := by
  unfold aq_new
  dsimp only
  unfold wpX_play wpY_play
  dsimp only
  rcases aq_c x h8 with z | ⟨c, hc, rfl⟩
  · exact ⟨-1, p, h, fun post H => ax_bad z (br_t rfl H), fun post H => ay_bad z (br_f (by decide) H)⟩
  · by_cases w : f = 0
    · have e : nI (aq_P n p) &&& ((1 : Int32) <<< (nI c &&& 31) ^^^ (-1)) = nI (aq_P n fun y => if y = c then false else p y) := by
        rw [aq_pow (by omega), aq_ndf]
        exact congrArg nI (aq_mk_out p hc)
      exact ⟨_, fun y => if y = c then false else p y, h, fun post H => ax_good h8 hc (br_f (by decide) (nm_e (br_t w (nm_r e H)))), fun post H => ay_good h8 hc (br_t rfl (nm_e (br_t w (nm_r e H))))⟩
    · have e : nI (aq_P n p) ||| ((1 : Int32) <<< (nI c &&& 31)) = nI (aq_P n fun y => if y = c then true else p y) := by
        rw [aq_pow (by omega), aq_nor]
        exact congrArg nI (aq_mk_in p hc)
      exact ⟨_, fun y => if y = c then true else p y, h, fun post H => ax_good h8 hc (br_f (by decide) (nm_e (br_f w (nm_r e H)))), fun post H => ay_good h8 hc (br_t rfl (nm_e (br_f w (nm_r e H))))⟩
end
theorem aq_mk_all (n : Nat) : (aq_mk n fun _ => true) = 2 ^ n - 1 := by
  apply Nat.eq_of_testBit_eq
  intro i
  rw [aq_mk_tb, Nat.testBit_two_pow_sub_one, Bool.and_true]
/-- a new object -/
theorem ax_new {post : SX → Prop} {n : Nat} (h8 : n ≤ 8) (H : post (aq_u n (fun _ => true) (fun _ _ => false))) : wX_init_30 post (nI n) 0 0 0 (fun _ => 0) := by
  have e1 : nI (2 ^ n) - 1 = nI (aq_P n fun _ => true) := by
    rw [aq_P, aq_mk_all]
    exact pk_sub (b := 1) (Nat.two_pow_pos n)
  have e2 : aq_t n (fun _ _ => false) = fun _ => 0 := by
    funext c
    show nI (aq_mk n fun _ => false) = 0
    rw [aq_mk_0]
    rfl
  refine nm_r (aq_pow (by omega)) (nm_r e1 ?_)
  rw [← e2]
  exact H
theorem ay_new {post : SY → Prop} {n : Nat} (h8 : n ≤ 8) (H : post (aq_v n (fun _ => true) (fun _ _ => false) (fun _ => 0) (fun _ => 0) (fun _ => 0) (fun _ => 0))) : wY_init_70 post (nI n) 0 0 (fun _ => 0) (fun _ => 0) (fun _ => 0) (fun _ => 0) (fun _ => 0) := by
  have e1 : ((1 : Int32) <<< (nI n &&& 31)) - 1 = nI (aq_P n fun _ => true) := by
    rw [aq_pow (by omega), aq_P, aq_mk_all]
    exact pk_sub (b := 1) (Nat.two_pow_pos n)
  exact nm_r e1 H
end
section
/-! what is owed -/
/-- one picture of both states: n claims, p in play, h the attacks; the reference's tables are free -/
def i_Rel (k : Nat) (u : SX) (v : SY) : Prop := ∃ n p h pe ad co re, 2 ≤ n ∧ n ≤ 8 ∧ u = aq_u n p h ∧ v = aq_v n p h pe ad co re
theorem i_up {k : Nat} {u : SX} {v : SY} (h : i_Rel k u v) : i_Rel (k + 4) u v := h
theorem aq_rel {k n : Nat} (h2 : 2 ≤ n) (h8 : n ≤ 8) (p : Nat → Bool) (h : Nat → Nat → Bool) (pe ad co re : Nat → Int32) : i_Rel k (aq_u n p h) (aq_v n p h pe ad co re) := ⟨n, p, h, pe, ad, co, re, h2, h8, rfl, rfl⟩
theorem i_vc0 (k0 : Int32) : wpX_init (fun u => wpY_init (fun v => i_Rel 1 u v) k0) k0 := by
  have K : ∀ n, 2 ≤ n → n ≤ 8 → ∀ Q : SX → Prop, (∀ u, wY_init_70 (fun v => i_Rel 1 u v) (nI n) 0 0 (fun _ => 0) (fun _ => 0) (fun _ => 0) (fun _ => 0) (fun _ => 0) → Q u) → wX_init_30 Q (nI n) 0 0 0 (fun _ => 0) := fun n h2 h8 Q HQ => ax_new h8 (HQ _ (ay_new h8 (aq_rel h2 h8 _ _ _ _ _ _)))
  by_cases z : 2 ≤ k0
  · by_cases w : k0 ≤ 8
    · obtain ⟨n, hn, rfl⟩ := nI_of2 (x := k0) (M := 8) (n := 8) (by decide) (fun q => absurd (Int32.lt_of_le_of_lt z q) (by decide)) w
      have h2 : 2 ≤ n := (nI_leI (a := 2) (by decide) (by omega)).mp z
      exact br_t z (br_t w (K n h2 hn _ fun u H => br_t z (br_t w H)))
    · exact br_t z (br_f w (K 8 (by decide) (by decide) _ fun u H => br_t z (br_f w H)))
  · exact br_f z (br_t (by decide) (K 2 (by decide) (by decide) _ fun u H => br_f z H))
theorem i_vc_claims {k : Nat} {u : SX} {v : SY} (I : i_Rel k u v) (hk : k + 4 ≤ 2049) : wpX_claims (fun r => wpY_claims (fun r' => r' = r ∧ i_Rel (k + 4) u v) v) u := by
  obtain ⟨n, p, h, pe, ad, co, re, h2, h8, rfl, rfl⟩ := I
  exact ⟨rfl, aq_rel h2 h8 p h pe ad co re⟩
theorem i_vc_attack {k : Nat} {u : SX} {v : SY} (I : i_Rel k u v) (hk : k + 4 ≤ 2049) (v1 : Int32) (v2 : Int32) (v3 : Int32) : wpX_attack (fun r u' => wpY_attack (fun r' v' => r' = r ∧ i_Rel (k + 4) u' v') v v1 v2 v3) u v1 v2 v3 := by
  obtain ⟨n, p, h, pe, ad, co, re, h2, h8, rfl, rfl⟩ := I
  obtain ⟨r, p', h', hX, hY⟩ := a_attack (p := p) (h := h) (pe := pe) (ad := ad) (co := co) (re := re) h8 v1 v2 v3
  exact hX _ (hY _ ⟨rfl, aq_rel h2 h8 _ _ _ _ _ _⟩)
theorem i_vc_attacks {k : Nat} {u : SX} {v : SY} (I : i_Rel k u v) (hk : k + 4 ≤ 2049) (v1 : Int32) (v2 : Int32) : wpX_attacks (fun r => wpY_attacks (fun r' => r' = r ∧ i_Rel (k + 4) u v) v v1 v2) u v1 v2 := by
  obtain ⟨n, p, h, pe, ad, co, re, h2, h8, rfl, rfl⟩ := I
  obtain ⟨r, hX, hY⟩ := a_attacks (p := p) (h := h) (pe := pe) (ad := ad) (co := co) (re := re) h8 v1 v2
  exact hX _ (hY _ ⟨rfl, aq_rel h2 h8 _ _ _ _ _ _⟩)
theorem i_vc_play {k : Nat} {u : SX} {v : SY} (I : i_Rel k u v) (hk : k + 4 ≤ 2049) (v1 : Int32) (v2 : Int32) : wpX_play (fun r u' => wpY_play (fun r' v' => r' = r ∧ i_Rel (k + 4) u' v') v v1 v2) u v1 v2 := by
  obtain ⟨n, p, h, pe, ad, co, re, h2, h8, rfl, rfl⟩ := I
  obtain ⟨r, p', h', hX, hY⟩ := a_play (p := p) (h := h) (pe := pe) (ad := ad) (co := co) (re := re) h8 v1 v2
  exact hX _ (hY _ ⟨rfl, aq_rel h2 h8 _ _ _ _ _ _⟩)
theorem i_vc_grounded {k : Nat} {u : SX} {v : SY} (I : i_Rel k u v) (hk : k + 4 ≤ 2049) : wpX_grounded (fun r => wpY_grounded (fun r' v' => r' = r ∧ i_Rel (k + 4) u v') v) u := by
  obtain ⟨n, p, h, pe, ad, co, re, h2, h8, rfl, rfl⟩ := I
  obtain ⟨r, hX, hY⟩ := a_grounded (p := p) (h := h) (pe := pe) (ad := ad) (co := co) (re := re) h8
  exact hX _ (hY _ (fun _ _ _ _ => ⟨rfl, aq_rel h2 h8 _ _ _ _ _ _⟩))
theorem i_vc_groundedLabel {k : Nat} {u : SX} {v : SY} (I : i_Rel k u v) (hk : k + 4 ≤ 2049) (v1 : Int32) : wpX_groundedLabel (fun r => wpY_groundedLabel (fun r' v' => r' = r ∧ i_Rel (k + 4) u v') v v1) u v1 := by
  obtain ⟨n, p, h, pe, ad, co, re, h2, h8, rfl, rfl⟩ := I
  obtain ⟨r, hX, hY⟩ := a_label (p := p) (h := h) (pe := pe) (ad := ad) (co := co) (re := re) h8 v1
  exact hX _ (hY _ (fun _ _ _ _ => ⟨rfl, aq_rel h2 h8 _ _ _ _ _ _⟩))
theorem i_vc_is {k : Nat} {u : SX} {v : SY} (I : i_Rel k u v) (hk : k + 4 ≤ 2049) (v1 : Int32) (v2 : Int32) : wpX_is (fun r => wpY_is (fun r' v' => r' = r ∧ i_Rel (k + 4) u v') v v1 v2) u v1 v2 := by
  obtain ⟨n, p, h, pe, ad, co, re, h2, h8, rfl, rfl⟩ := I
  obtain ⟨r, hX, hY⟩ := a_is (p := p) (h := h) (pe := pe) (ad := ad) (co := co) (re := re) h8 v1 v2
  exact hX _ (hY _ (fun _ _ _ _ => ⟨rfl, aq_rel h2 h8 _ _ _ _ _ _⟩))
theorem i_vc_count {k : Nat} {u : SX} {v : SY} (I : i_Rel k u v) (hk : k + 4 ≤ 2049) (v1 : Int32) : wpX_count (fun r => wpY_count (fun r' v' => r' = r ∧ i_Rel (k + 4) u v') v v1) u v1 := by
  obtain ⟨n, p, h, pe, ad, co, re, h2, h8, rfl, rfl⟩ := I
  obtain ⟨r, hX, hY⟩ := a_count (p := p) (h := h) (pe := pe) (ad := ad) (co := co) (re := re) h8 v1
  exact hX _ (hY _ (fun _ _ _ _ => ⟨rfl, aq_rel h2 h8 _ _ _ _ _ _⟩))
theorem i_vc_nth {k : Nat} {u : SX} {v : SY} (I : i_Rel k u v) (hk : k + 4 ≤ 2049) (v1 : Int32) (v2 : Int32) : wpX_nth (fun r => wpY_nth (fun r' v' => r' = r ∧ i_Rel (k + 4) u v') v v1 v2) u v1 v2 := by
  obtain ⟨n, p, h, pe, ad, co, re, h2, h8, rfl, rfl⟩ := I
  obtain ⟨r, hX, hY⟩ := a_nth (p := p) (h := h) (pe := pe) (ad := ad) (co := co) (re := re) h8 v1 v2
  exact hX _ (hY _ (fun _ _ _ _ => ⟨rfl, aq_rel h2 h8 _ _ _ _ _ _⟩))
theorem i_vc_possible {k : Nat} {u : SX} {v : SY} (I : i_Rel k u v) (hk : k + 4 ≤ 2049) (v1 : Int32) (v2 : Int32) : wpX_possible (fun r => wpY_possible (fun r' v' => r' = r ∧ i_Rel (k + 4) u v') v v1 v2) u v1 v2 := by
  obtain ⟨n, p, h, pe, ad, co, re, h2, h8, rfl, rfl⟩ := I
  obtain ⟨r, hX, hY⟩ := a_possible (p := p) (h := h) (pe := pe) (ad := ad) (co := co) (re := re) h8 v1 v2
  exact hX _ (hY _ (fun _ _ _ _ => ⟨rfl, aq_rel h2 h8 _ _ _ _ _ _⟩))
theorem i_vc_certain {k : Nat} {u : SX} {v : SY} (I : i_Rel k u v) (hk : k + 4 ≤ 2049) (v1 : Int32) (v2 : Int32) : wpX_certain (fun r => wpY_certain (fun r' v' => r' = r ∧ i_Rel (k + 4) u v') v v1 v2) u v1 v2 := by
  obtain ⟨n, p, h, pe, ad, co, re, h2, h8, rfl, rfl⟩ := I
  obtain ⟨r, hX, hY⟩ := a_certain (p := p) (h := h) (pe := pe) (ad := ad) (co := co) (re := re) h8 v1 v2
  exact hX _ (hY _ (fun _ _ _ _ => ⟨rfl, aq_rel h2 h8 _ _ _ _ _ _⟩))
theorem i_vc_core {k : Nat} {u : SX} {v : SY} (I : i_Rel k u v) (hk : k + 4 ≤ 2049) (v1 : Int32) : wpX_core (fun r => wpY_core (fun r' v' => r' = r ∧ i_Rel (k + 4) u v') v v1) u v1 := by
  obtain ⟨n, p, h, pe, ad, co, re, h2, h8, rfl, rfl⟩ := I
  obtain ⟨r, hX, hY⟩ := a_core (p := p) (h := h) (pe := pe) (ad := ad) (co := co) (re := re) h8 v1
  exact hX _ (hY _ (fun _ _ _ _ => ⟨rfl, aq_rel h2 h8 _ _ _ _ _ _⟩))
theorem i_vc_range {k : Nat} {u : SX} {v : SY} (I : i_Rel k u v) (hk : k + 4 ≤ 2049) (v1 : Int32) : wpX_range (fun r => wpY_range (fun r' => r' = r ∧ i_Rel (k + 4) u v) v v1) u v1 := by
  obtain ⟨n, p, h, pe, ad, co, re, h2, h8, rfl, rfl⟩ := I
  obtain ⟨r, hX, hY⟩ := a_range (p := p) (h := h) (pe := pe) (ad := ad) (co := co) (re := re) h8 v1
  exact hX _ (hY _ ⟨rfl, aq_rel h2 h8 _ _ _ _ _ _⟩)
theorem i_vc_defended {k : Nat} {u : SX} {v : SY} (I : i_Rel k u v) (hk : k + 4 ≤ 2049) (v1 : Int32) : wpX_defended (fun r => wpY_defended (fun r' => r' = r ∧ i_Rel (k + 4) u v) v v1) u v1 := by
  obtain ⟨n, p, h, pe, ad, co, re, h2, h8, rfl, rfl⟩ := I
  obtain ⟨r, hX, hY⟩ := a_defended (p := p) (h := h) (pe := pe) (ad := ad) (co := co) (re := re) h8 v1
  exact hX _ (hY _ ⟨rfl, aq_rel h2 h8 _ _ _ _ _ _⟩)
theorem i_vc_ideal {k : Nat} {u : SX} {v : SY} (I : i_Rel k u v) (hk : k + 4 ≤ 2049) : wpX_ideal (fun r => wpY_ideal (fun r' v' => r' = r ∧ i_Rel (k + 4) u v') v) u := by
  obtain ⟨n, p, h, pe, ad, co, re, h2, h8, rfl, rfl⟩ := I
  obtain ⟨r, hX, hY⟩ := a_ideal (p := p) (h := h) h8 pe ad co re
  exact hX _ (hY _ (fun _ _ _ _ => ⟨rfl, aq_rel h2 h8 _ _ _ _ _ _⟩))
end

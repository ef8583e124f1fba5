/-! the pure picture. n claims, p i: claim i is in play, h a b: a attacks b. A set is a number below 2^n -/
def aq_any : Nat → (Nat → Bool) → Bool
  | 0, _ => false
  | k + 1, f => aq_any k f || f k
theorem aq_any_iff (f : Nat → Bool) : ∀ k, aq_any k f = true ↔ ∃ i, i < k ∧ f i = true
  | 0 => by simp [aq_any]
  | k + 1 => by
    rw [aq_any, Bool.or_eq_true, aq_any_iff f k]
    constructor
    · rintro (⟨i, hi, hf⟩ | hf)
      · exact ⟨i, by omega, hf⟩
      · exact ⟨k, by omega, hf⟩
    · rintro ⟨i, hi, hf⟩
      rcases Nat.lt_or_ge i k with z | z
      · exact Or.inl ⟨i, z, hf⟩
      · have e : i = k := by omega
        subst e; exact Or.inr hf
theorem aq_any_no {f : Nat → Bool} {k : Nat} : aq_any k f = false ↔ ∀ i, i < k → f i = false := by
  rw [← Bool.not_eq_true, aq_any_iff]
  constructor
  · intro H i hi
    cases e : f i with
    | false => rfl
    | true => exact absurd ⟨i, hi, e⟩ H
  · rintro H ⟨i, hi, e⟩
    rw [H i hi] at e; exact absurd e (by decide)
theorem aq_any_congr {f g : Nat → Bool} : ∀ {k : Nat}, (∀ i, i < k → f i = g i) → aq_any k f = aq_any k g
  | 0, _ => rfl
  | k + 1, H => by rw [aq_any, aq_any, aq_any_congr (k := k) fun i hi => H i (by omega), H k (by omega)]
def aq_mk : Nat → (Nat → Bool) → Nat
  | 0, _ => 0
  | k + 1, f => aq_mk k f ||| (if f k then 2 ^ k else 0)
theorem aq_mk_lt (f : Nat → Bool) : ∀ k, aq_mk k f < 2 ^ k
  | 0 => by simp [aq_mk]
  | k + 1 => by
    have h := aq_mk_lt f k
    have h2 : 2 ^ k < 2 ^ (k + 1) := Nat.pow_lt_pow_right (by decide) (by omega)
    rw [aq_mk]
    refine Nat.or_lt_two_pow (by omega) ?_
    split
    · exact h2
    · exact Nat.two_pow_pos _
theorem aq_mk_tb (f : Nat → Bool) (i : Nat) : ∀ k, (aq_mk k f).testBit i = (decide (i < k) && f i)
  | 0 => by simp [aq_mk]
  | k + 1 => by
    rw [aq_mk, Nat.testBit_or, aq_mk_tb f i k]
    by_cases e : i = k
    · subst e
      cases hf : f i <;> simp
    · have e1 : decide (i < k + 1) = decide (i < k) := decide_eq_decide.mpr (by omega)
      have e2 : (if f k then 2 ^ k else 0).testBit i = false := by
        split
        · rw [Nat.testBit_two_pow]; exact decide_eq_false (by omega)
        · exact Nat.zero_testBit i
      rw [e1, e2, Bool.or_false]
theorem aq_mk_iff {f : Nat → Bool} {k i : Nat} : (aq_mk k f).testBit i = true ↔ i < k ∧ f i = true := by
  rw [aq_mk_tb, Bool.and_eq_true, decide_eq_true_iff]
theorem aq_hi {n s i : Nat} (hs : s < 2 ^ n) (hi : s.testBit i = true) : i < n := by
  rcases Nat.lt_or_ge i n with z | z
  · exact z
  · have hp : 2 ^ n ≤ 2 ^ i := Nat.pow_le_pow_right (by decide) z
    rw [Nat.testBit_lt_two_pow (show s < 2 ^ i by omega)] at hi
    exact absurd hi (by decide)
/-- s is part of t -/
def aq_sb (s t : Nat) : Bool := decide (s &&& t = s)
theorem aq_sb_iff {s t : Nat} : aq_sb s t = true ↔ ∀ i, s.testBit i = true → t.testBit i = true := by
  rw [aq_sb, decide_eq_true_iff]
  constructor
  · intro e i hi
    rw [← e, Nat.testBit_and, Bool.and_eq_true] at hi
    exact hi.2
  · intro H
    apply Nat.eq_of_testBit_eq
    intro i
    rw [Nat.testBit_and]
    cases e : s.testBit i with
    | false => rfl
    | true => rw [H i e]; rfl
theorem aq_sb_anti {s t : Nat} (h1 : aq_sb s t = true) (h2 : aq_sb t s = true) : s = t := by
  rw [aq_sb_iff] at h1 h2
  apply Nat.eq_of_testBit_eq
  intro i
  cases e : s.testBit i with
  | true => exact (h1 i e).symm
  | false =>
    cases e2 : t.testBit i with
    | false => rfl
    | true => rw [h2 i e2] at e; exact absurd e (by decide)
theorem aq_sb_rfl (s : Nat) : aq_sb s s = true := aq_sb_iff.mpr fun _ h => h
theorem aq_sb_le {s t : Nat} (h : aq_sb s t = true) : s ≤ t := by
  rw [aq_sb, decide_eq_true_iff] at h
  rw [← h]; exact Nat.and_le_right
/-- s is a proper part of t -/
def aq_pp (s t : Nat) : Bool := decide (s ≠ t) && aq_sb s t
/-- how many bits below k -/
def aq_cd : Nat → Nat → Nat
  | 0, _ => 0
  | k + 1, s => aq_cd k s + (if s.testBit k then 1 else 0)
theorem aq_cd_le (s : Nat) : ∀ k, aq_cd k s ≤ k
  | 0 => Nat.le_refl 0
  | k + 1 => by have h := aq_cd_le s k; rw [aq_cd]; split <;> omega
theorem aq_cd_mono {s t : Nat} (H : ∀ i, s.testBit i = true → t.testBit i = true) : ∀ k, aq_cd k s ≤ aq_cd k t
  | 0 => Nat.le_refl 0
  | k + 1 => by
    have h := aq_cd_mono H k
    rw [aq_cd, aq_cd]
    by_cases e : s.testBit k = true
    · rw [if_pos e, if_pos (H k e)]; omega
    · rw [if_neg e]; omega
theorem aq_cd_lt {s t i : Nat} (H : ∀ i, s.testBit i = true → t.testBit i = true) (hs : s.testBit i = false) (ht : t.testBit i = true) : ∀ k, i < k → aq_cd k s < aq_cd k t
  | 0, z => absurd z (by omega)
  | k + 1, z => by
    rw [aq_cd, aq_cd]
    by_cases e : i = k
    · subst e
      have h := aq_cd_mono H i
      rw [if_pos ht, hs]; simp; omega
    · have h := aq_cd_lt H hs ht k (by omega)
      by_cases e : s.testBit k = true
      · rw [if_pos e, if_pos (H k e)]; omega
      · rw [if_neg e]; omega
section
variable (n : Nat) (p : Nat → Bool) (h : Nat → Nat → Bool)
/-- the claims in play -/
def aq_P : Nat := aq_mk n p
/-- a attacks b, both in play -/
def aq_r (a b : Nat) : Bool := p a && p b && h a b
/-- what s attacks -/
def aq_A (s : Nat) : Nat := aq_mk n fun b => aq_any n fun a => s.testBit a && aq_r p h a b
/-- what s defends -/
def aq_D (s : Nat) : Nat := aq_mk n fun b => p b && !aq_any n fun a => aq_r p h a b && !(aq_A n p h s).testBit a
/-- the range of s -/
def aq_R (s : Nat) : Nat := s ||| aq_A n p h s
def aq_pf (s : Nat) : Bool := aq_sb s (aq_P n p) && decide (s &&& aq_A n p h s = 0)
def aq_ad (s : Nat) : Bool := aq_pf n p h s && aq_sb s (aq_D n p h s)
def aq_co (s : Nat) : Bool := aq_ad n p h s && aq_sb (aq_D n p h s) s
def aq_pr (s : Nat) : Bool := aq_ad n p h s && !aq_any (2 ^ n) fun t => aq_ad n p h t && aq_pp s t
def aq_st (s : Nat) : Bool := aq_pf n p h s && decide (aq_R n p h s = aq_P n p)
def aq_sg (s : Nat) : Bool := aq_pf n p h s && !aq_any (2 ^ n) fun t => aq_pf n p h t && aq_pp (aq_R n p h s) (aq_R n p h t)
def aq_ss (s : Nat) : Bool := aq_co n p h s && !aq_any (2 ^ n) fun t => aq_co n p h t && aq_pp (aq_R n p h s) (aq_R n p h t)
def aq_kd (k s : Nat) : Bool :=
  if k = 0 then aq_ad n p h s else if k = 1 then aq_co n p h s else if k = 2 then aq_pr n p h s
  else if k = 3 then aq_st n p h s else if k = 4 then aq_sg n p h s else aq_ss n p h s
end
section
variable {n : Nat} {p : Nat → Bool} {h : Nat → Nat → Bool}
theorem aq_r_iff {a b : Nat} : aq_r p h a b = true ↔ p a = true ∧ p b = true ∧ h a b = true := by
  rw [aq_r, Bool.and_eq_true, Bool.and_eq_true, and_assoc]
theorem aq_P_lt : aq_P n p < 2 ^ n := aq_mk_lt _ _
theorem aq_A_lt (s : Nat) : aq_A n p h s < 2 ^ n := aq_mk_lt _ _
theorem aq_D_lt (s : Nat) : aq_D n p h s < 2 ^ n := aq_mk_lt _ _
theorem aq_R_lt {s : Nat} (hs : s < 2 ^ n) : aq_R n p h s < 2 ^ n := Nat.or_lt_two_pow hs (aq_A_lt s)
theorem aq_P_iff {i : Nat} : (aq_P n p).testBit i = true ↔ i < n ∧ p i = true := aq_mk_iff
theorem aq_A_iff {s b : Nat} : (aq_A n p h s).testBit b = true ↔ b < n ∧ ∃ a, a < n ∧ s.testBit a = true ∧ aq_r p h a b = true := by
  rw [aq_A, aq_mk_iff, aq_any_iff]
  simp only [Bool.and_eq_true]
theorem aq_D_iff {s b : Nat} : (aq_D n p h s).testBit b = true ↔ b < n ∧ p b = true ∧ ∀ a, a < n → aq_r p h a b = true → (aq_A n p h s).testBit a = true := by
  rw [aq_D, aq_mk_iff, Bool.and_eq_true, Bool.not_eq_true', aq_any_no]
  refine and_congr_right fun _ => and_congr_right fun _ => ⟨fun H a ha hr => ?_, fun H a ha => ?_⟩
  · have z := H a ha
    rw [hr, Bool.true_and, Bool.not_eq_false'] at z
    exact z
  · cases hr : aq_r p h a b with
    | false => rfl
    | true => rw [H a ha hr]; rfl
theorem aq_pf_iff {s : Nat} : aq_pf n p h s = true ↔ (∀ i, s.testBit i = true → i < n ∧ p i = true) ∧ ∀ a b, a < n → b < n → s.testBit a = true → s.testBit b = true → aq_r p h a b = false := by
  rw [aq_pf, Bool.and_eq_true, decide_eq_true_iff, aq_sb_iff]
  refine and_congr (forall_congr' fun i => by rw [aq_P_iff]) ⟨fun H a b ha hb sa sb => ?_, fun H => ?_⟩
  · cases hr : aq_r p h a b with
    | false => rfl
    | true =>
      have z : (s &&& aq_A n p h s).testBit b = true := by
        rw [Nat.testBit_and, sb, aq_A_iff.mpr ⟨hb, a, ha, sa, hr⟩]; rfl
      rw [H, Nat.zero_testBit] at z
      exact absurd z (by decide)
  · apply Nat.eq_of_testBit_eq
    intro b
    rw [Nat.zero_testBit, Nat.testBit_and]
    cases sb : s.testBit b with
    | false => rfl
    | true =>
      cases e : (aq_A n p h s).testBit b with
      | false => rfl
      | true =>
        obtain ⟨hb, a, ha, sa, hr⟩ := aq_A_iff.mp e
        rw [H a b ha hb sa sb] at hr
        exact absurd hr (by decide)
theorem aq_ad_iff {s : Nat} : aq_ad n p h s = true ↔ aq_pf n p h s = true ∧ ∀ i, s.testBit i = true → (aq_D n p h s).testBit i = true := by
  rw [aq_ad, Bool.and_eq_true, aq_sb_iff]
theorem aq_co_iff {s : Nat} : aq_co n p h s = true ↔ aq_ad n p h s = true ∧ ∀ i, (aq_D n p h s).testBit i = true → s.testBit i = true := by
  rw [aq_co, Bool.and_eq_true, aq_sb_iff]
theorem aq_A_mono {s t : Nat} (H : ∀ i, s.testBit i = true → t.testBit i = true) (b : Nat) (hb : (aq_A n p h s).testBit b = true) : (aq_A n p h t).testBit b = true := by
  obtain ⟨h1, a, ha, sa, hr⟩ := aq_A_iff.mp hb
  exact aq_A_iff.mpr ⟨h1, a, ha, H a sa, hr⟩
theorem aq_D_mono {s t : Nat} (H : ∀ i, s.testBit i = true → t.testBit i = true) (b : Nat) (hb : (aq_D n p h s).testBit b = true) : (aq_D n p h t).testBit b = true := by
  obtain ⟨h1, h2, h3⟩ := aq_D_iff.mp hb
  exact aq_D_iff.mpr ⟨h1, h2, fun a ha hr => aq_A_mono H a (h3 a ha hr)⟩
/-- what an admissible set defends is admissible -/
theorem aq_fund {s : Nat} (H : aq_ad n p h s = true) : aq_ad n p h (aq_D n p h s) = true := by
  obtain ⟨hp, hd⟩ := aq_ad_iff.mp H
  obtain ⟨hP, hc⟩ := aq_pf_iff.mp hp
  refine aq_ad_iff.mpr ⟨aq_pf_iff.mpr ⟨fun i hi => ?_, fun a b ha hb da db => ?_⟩, aq_D_mono hd⟩
  · obtain ⟨h1, h2, _⟩ := aq_D_iff.mp hi
    exact ⟨h1, h2⟩
  · cases hr : aq_r p h a b with
    | false => rfl
    | true =>
      obtain ⟨_, c, hcn, sc, rc⟩ := aq_A_iff.mp ((aq_D_iff.mp db).2.2 a ha hr)
      obtain ⟨_, d, hdn, sd, rd⟩ := aq_A_iff.mp ((aq_D_iff.mp da).2.2 c hcn rc)
      rw [hc d c hdn hcn sd sc] at rd
      exact absurd rd (by decide)
theorem aq_ad0 : aq_ad n p h 0 = true := by
  refine aq_ad_iff.mpr ⟨aq_pf_iff.mpr ⟨fun i hi => ?_, fun a b _ _ hi _ => ?_⟩, fun i hi => ?_⟩ <;>
  · rw [Nat.zero_testBit] at hi
    exact absurd hi (by decide)
end
/-- the grounded set, by rounds -/
def aq_g (n : Nat) (p : Nat → Bool) (h : Nat → Nat → Bool) : Nat → Nat
  | 0 => 0
  | m + 1 => aq_D n p h (aq_g n p h m)
section
variable {n : Nat} {p : Nat → Bool} {h : Nat → Nat → Bool}
theorem aq_g_ad : ∀ m, aq_ad n p h (aq_g n p h m) = true
  | 0 => aq_ad0
  | m + 1 => aq_fund (aq_g_ad m)
theorem aq_g_up (m : Nat) : ∀ i, (aq_g n p h m).testBit i = true → (aq_g n p h (m + 1)).testBit i = true := (aq_ad_iff.mp (aq_g_ad m)).2
theorem aq_g_lt : ∀ m, aq_g n p h m < 2 ^ n
  | 0 => Nat.two_pow_pos n
  | _ + 1 => aq_D_lt _
theorem aq_g_st1 {m c : Nat} (hc : c ≤ aq_cd n (aq_g n p h m)) (e : ¬ aq_g n p h (m + 1) = aq_g n p h m) : c + 1 ≤ aq_cd n (aq_g n p h (m + 1)) := by
  rcases Classical.em (∃ i, (aq_g n p h m).testBit i = false ∧ (aq_g n p h (m + 1)).testBit i = true) with ⟨i, h1, h2⟩ | z
  · have := aq_cd_lt (aq_g_up m) h1 h2 n (aq_hi (aq_g_lt _) h2)
    omega
  · refine absurd (Nat.eq_of_testBit_eq fun i => ?_) e
    cases e1 : (aq_g n p h m).testBit i with
    | true => exact aq_g_up m i e1
    | false =>
      cases e2 : (aq_g n p h (m + 1)).testBit i with
      | false => rfl
      | true => exact absurd ⟨i, e1, e2⟩ z
theorem aq_g_st : ∀ m, aq_g n p h (m + 1) = aq_g n p h m ∨ m + 1 ≤ aq_cd n (aq_g n p h (m + 1))
  | 0 => by
    by_cases e : aq_g n p h (0 + 1) = aq_g n p h 0
    · exact Or.inl e
    · exact Or.inr (aq_g_st1 (Nat.zero_le _) e)
  | m + 1 => by
    rcases aq_g_st m with z | z
    · refine Or.inl ?_
      show aq_D n p h (aq_g n p h (m + 1)) = aq_D n p h (aq_g n p h m)
      rw [z]
    · by_cases e : aq_g n p h (m + 1 + 1) = aq_g n p h (m + 1)
      · exact Or.inl e
      · exact Or.inr (aq_g_st1 z e)
theorem aq_g_fix : aq_D n p h (aq_g n p h n) = aq_g n p h n := by
  rcases aq_g_st (n := n) (p := p) (h := h) n with z | z
  · exact z
  · have := aq_cd_le (aq_g n p h (n + 1)) n
    omega
/-- the grounded set is complete -/
theorem aq_g_co : aq_co n p h (aq_g n p h n) = true := by
  refine aq_co_iff.mpr ⟨aq_g_ad n, fun i hi => ?_⟩
  rw [aq_g_fix] at hi
  exact hi
theorem aq_g_in {t : Nat} (ht : aq_co n p h t = true) : ∀ m i, (aq_g n p h m).testBit i = true → t.testBit i = true
  | 0, i, hi => by
    have z : (0 : Nat).testBit i = true := hi
    rw [Nat.zero_testBit] at z
    exact absurd z (by decide)
  | m + 1, i, hi => (aq_co_iff.mp ht).2 i (aq_D_mono (aq_g_in ht m) i hi)
/-- and part of every complete set -/
theorem aq_g_least {t : Nat} (ht : aq_co n p h t = true) : aq_sb (aq_g n p h n) t = true := aq_sb_iff.mpr (aq_g_in ht n)
/-- what the reference's search asks of a set -/
def aq_below (n : Nat) (p : Nat → Bool) (h : Nat → Nat → Bool) (s : Nat) : Bool := aq_co n p h s && !aq_any (2 ^ n) fun t => aq_co n p h t && !aq_sb s t
theorem aq_below_iff {s : Nat} : aq_below n p h s = true ↔ aq_co n p h s = true ∧ ∀ t, t < 2 ^ n → aq_co n p h t = true → aq_sb s t = true := by
  rw [aq_below, Bool.and_eq_true, Bool.not_eq_true', aq_any_no]
  refine and_congr_right fun _ => ⟨fun H t ht hc => ?_, fun H t ht => ?_⟩
  · have z := H t ht
    rw [hc, Bool.true_and, Bool.not_eq_false'] at z
    exact z
  · cases hc : aq_co n p h t with
    | false => rfl
    | true => rw [H t ht hc]; rfl
theorem aq_below_g : aq_below n p h (aq_g n p h n) = true := aq_below_iff.mpr ⟨aq_g_co, fun _ _ hc => aq_g_least hc⟩
theorem aq_below_u {s : Nat} (H : aq_below n p h s = true) : s = aq_g n p h n := by
  obtain ⟨h1, h2⟩ := aq_below_iff.mp H
  exact aq_sb_anti (h2 _ (aq_g_lt n) aq_g_co) (aq_g_least h1)
theorem aq_below_no {s : Nat} (H : s ≠ aq_g n p h n) : aq_below n p h s = false := by
  cases e : aq_below n p h s with
  | false => rfl
  | true => exact absurd (aq_below_u e) H
/-! the greatest number with a property -/
theorem aq_last (f : Nat → Bool) : ∀ k, (∃ i, i < k ∧ f i = true) → ∃ m, m < k ∧ f m = true ∧ ∀ j, m < j → j < k → f j = false
  | 0, ⟨_, z, _⟩ => absurd z (by omega)
  | k + 1, ⟨i, hi, hf⟩ => by
    cases e : f k with
    | true => exact ⟨k, by omega, e, fun j h1 h2 => absurd h1 (by omega)⟩
    | false =>
      have z : i < k := by
        rcases Nat.lt_or_ge i k with z | z
        · exact z
        · have e2 : i = k := by omega
          rw [e2, e] at hf; exact absurd hf (by decide)
      obtain ⟨m, h1, h2, h3⟩ := aq_last f k ⟨i, z, hf⟩
      refine ⟨m, by omega, h2, fun j h4 h5 => ?_⟩
      by_cases e2 : j = k
      · rw [e2]; exact e
      · exact h3 j h4 (by omega)
theorem aq_pr_iff {s : Nat} : aq_pr n p h s = true ↔ aq_ad n p h s = true ∧ ∀ t, t < 2 ^ n → aq_ad n p h t = true → aq_pp s t = false := by
  rw [aq_pr, Bool.and_eq_true, Bool.not_eq_true', aq_any_no]
  refine and_congr_right fun _ => ⟨fun H t ht hc => ?_, fun H t ht => ?_⟩
  · have z := H t ht
    rw [hc, Bool.true_and] at z
    exact z
  · cases hc : aq_ad n p h t with
    | false => rfl
    | true => rw [H t ht hc]; rfl
/-- there is a preferred set -/
theorem aq_pr_ex : ∃ m, m < 2 ^ n ∧ aq_pr n p h m = true := by
  obtain ⟨m, h1, h2, h3⟩ := aq_last (aq_ad n p h) (2 ^ n) ⟨0, Nat.two_pow_pos n, aq_ad0⟩
  refine ⟨m, h1, aq_pr_iff.mpr ⟨h2, fun t ht hc => ?_⟩⟩
  cases e : aq_pp m t with
  | false => rfl
  | true =>
    rw [aq_pp, Bool.and_eq_true, decide_eq_true_iff] at e
    have z := aq_sb_le e.2
    rw [h3 t (by omega) ht] at hc
    exact absurd hc (by decide)
/-- two admissible sets within one peaceful set: their union is admissible -/
theorem aq_ad_or {s t m : Nat} (hs : aq_ad n p h s = true) (ht : aq_ad n p h t = true) (hm : aq_pf n p h m = true) (sm : aq_sb s m = true) (tm : aq_sb t m = true) : aq_ad n p h (s ||| t) = true := by
  rw [aq_sb_iff] at sm tm
  obtain ⟨hP, hc⟩ := aq_pf_iff.mp hm
  have um : ∀ i, (s ||| t).testBit i = true → m.testBit i = true := by
    intro i hi
    rw [Nat.testBit_or, Bool.or_eq_true] at hi
    rcases hi with z | z
    · exact sm i z
    · exact tm i z
  refine aq_ad_iff.mpr ⟨aq_pf_iff.mpr ⟨fun i hi => hP i (um i hi), fun a b ha hb ua ub => hc a b ha hb (um a ua) (um b ub)⟩, fun i hi => ?_⟩
  rw [Nat.testBit_or, Bool.or_eq_true] at hi
  rcases hi with z | z
  · exact aq_D_mono (fun j hj => by rw [Nat.testBit_or, hj, Bool.true_or]) i ((aq_ad_iff.mp hs).2 i z)
  · exact aq_D_mono (fun j hj => by rw [Nat.testBit_or, hj, Bool.or_true]) i ((aq_ad_iff.mp ht).2 i z)
/-- C is part of every preferred set: the greatest number among the admissible parts of C contains them all -/
theorem aq_ideal {C m : Nat} (hC : ∀ t, t < 2 ^ n → aq_pr n p h t = true → aq_sb C t = true) (hm : m < 2 ^ n) (ha : aq_ad n p h m = true) (hs : aq_sb m C = true) (hl : ∀ j, m < j → j < 2 ^ n → (aq_sb j C && aq_ad n p h j) = false) {t : Nat} (ht : t < 2 ^ n) (hta : aq_ad n p h t = true) (hts : aq_sb t C = true) : aq_sb t m = true := by
  obtain ⟨q, hq, hp⟩ := aq_pr_ex (n := n) (p := p) (h := h)
  have hq2 := aq_sb_iff.mp (hC q hq hp)
  have s1 := aq_sb_iff.mp hs
  have s2 := aq_sb_iff.mp hts
  have hu := aq_ad_or ha hta (aq_ad_iff.mp (aq_pr_iff.mp hp).1).1 (aq_sb_iff.mpr fun i z => hq2 i (s1 i z)) (aq_sb_iff.mpr fun i z => hq2 i (s2 i z))
  have hul : m ||| t < 2 ^ n := Nat.or_lt_two_pow hm ht
  have huC : aq_sb (m ||| t) C = true := by
    refine aq_sb_iff.mpr fun i hi => ?_
    rw [Nat.testBit_or, Bool.or_eq_true] at hi
    rcases hi with z | z
    · exact s1 i z
    · exact s2 i z
  have hge : m ≤ m ||| t := Nat.left_le_or
  have e : m ||| t = m := by
    rcases Nat.lt_or_ge m (m ||| t) with z | z
    · have w := hl _ z hul
      rw [huC, hu] at w
      exact absurd w (by decide)
    · omega
  refine aq_sb_iff.mpr fun i hi => ?_
  rw [← e, Nat.testBit_or, hi, Bool.or_true]
end

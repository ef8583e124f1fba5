/-! the stores: one bit of a set, one place of the attacks; a new object -/
theorem aq_mk_in {n b : Nat} (f : Nat → Bool) (hb : b < n) : aq_mk n f ||| 2 ^ b = aq_mk n fun y => if y = b then true else f y := by
  apply Nat.eq_of_testBit_eq
  intro i
  rw [Nat.testBit_or, aq_mk_tb, aq_mk_tb, Nat.testBit_two_pow]
  by_cases e : i = b
  · subst e
    simp [hb]
  · have e2 : ¬ b = i := fun w => e w.symm
    simp [e, e2]
theorem aq_mk_out {n b : Nat} (f : Nat → Bool) (hb : b < n) : aq_df (aq_mk n f) (2 ^ b) = aq_mk n fun y => if y = b then false else f y := by
  apply Nat.eq_of_testBit_eq
  intro i
  rw [aq_df_tb, aq_mk_tb, aq_mk_tb, Nat.testBit_two_pow]
  by_cases e : i = b
  · subst e
    simp
  · have e2 : ¬ b = i := fun w => e w.symm
    simp [e, e2]
/-- the attacks with one place changed -/
def aq_put (h : Nat → Nat → Bool) (a b : Nat) (v : Bool) : Nat → Nat → Bool := fun x y => if x = a then (if y = b then v else h x y) else h x y
theorem aq_t_in {n a b : Nat} (h : Nat → Nat → Bool) (hb : b < n) : upd (aq_t n h) a (nI (aq_mk n (h a) ||| 2 ^ b)) = aq_t n (aq_put h a b true) := by
  funext c
  by_cases e : c = a
  · subst e
    rw [pk_us, aq_mk_in _ hb]
    refine congrArg nI (aq_mk_ext fun y _ => ?_)
    rw [aq_put, if_pos rfl]
  · rw [pk_un e]
    refine congrArg nI (aq_mk_ext fun y _ => ?_)
    rw [aq_put, if_neg e]
theorem aq_t_out {n a b : Nat} (h : Nat → Nat → Bool) (hb : b < n) : upd (aq_t n h) a (nI (aq_df (aq_mk n (h a)) (2 ^ b))) = aq_t n (aq_put h a b false) := by
  funext c
  by_cases e : c = a
  · subst e
    rw [pk_us, aq_mk_out _ hb]
    refine congrArg nI (aq_mk_ext fun y _ => ?_)
    rw [aq_put, if_pos rfl]
  · rw [pk_un e]
    refine congrArg nI (aq_mk_ext fun y _ => ?_)
    rw [aq_put, if_neg e]
theorem aq_hs_put {a b : Nat} (h : Nat → Nat → Bool) (hb : b < 8) (v : Bool) : upd (aq_hs h) (8 * a + b) (aq_i v) = aq_hs (aq_put h a b v) := by
  funext i
  by_cases e : i = 8 * a + b
  · subst e
    rw [pk_us]
    refine congrArg aq_i ?_
    rw [aq_put, if_pos (by omega), if_pos (by omega)]
  · rw [pk_un e]
    refine congrArg aq_i ?_
    rw [aq_put]
    by_cases e1 : i / 8 = a
    · rw [if_pos e1, if_neg (by omega)]
    · rw [if_neg e1]
section
variable {n : Nat} {p : Nat → Bool} {h : Nat → Nat → Bool} {post : Int32 → Prop} {pe ad co re : Nat → Int32}
theorem aq_t_at {a b : Nat} (h8 : n ≤ 8) (ha : a < n) (hb : b < n) : (aq_t n h (nI a).toNatClampNeg >>> (nI b &&& 31)) &&& 1 = aq_i (h a b) := by
  rw [nI_clamp (by omega)]
  show (nI (aq_mk n (h a)) >>> (nI b &&& 31)) &&& 1 = _
  rw [aq_one (aq_31 h8 (aq_mk_lt _ _)) (by omega), aq_mk_tb, decide_eq_true hb, Bool.true_and]
theorem ax_attacks {a b : Nat} (h8 : n ≤ 8) (ha : a < n) (hb : b < n) (H : post (aq_i (h a b))) : wpX_attacks post (aq_u n p h) (nI a) (nI b) := by
  unfold wpX_attacks aq_u
  dsimp only
  refine ax_good h8 ha (br_f (by decide) (ax_good h8 hb (br_f (by decide) ⟨vp_in_nI (by omega) (by decide), ?_⟩)))
  rw [aq_t_at h8 ha hb]
  exact H
theorem ax_attacks_no {x y : Int32} (h8 : n ≤ 8) (hz : (x < 0 ∨ nI n ≤ x) ∨ (y < 0 ∨ nI n ≤ y)) (H : post (-1)) : wpX_attacks post (aq_u n p h) x y := by
  unfold wpX_attacks aq_u
  dsimp only
  rcases aq_c x h8 with z | ⟨a, ha, rfl⟩
  · exact ax_bad z (br_t rfl H)
  · refine ax_good h8 ha (br_f (by decide) ?_)
    rcases hz with z | z
    · rcases z with z | z
      · exact absurd z (nI_pos (by omega))
      · exact absurd z (nI_ge ha (by omega))
    · exact ax_bad z (br_t rfl H)
theorem aq_i0 (b : Bool) : 0 ≤ aq_i b := by cases b <;> decide
theorem a_attacks (h8 : n ≤ 8) (x y : Int32) : aq_read (fun post => wpX_attacks post (aq_u n p h) x y) (fun post => wpY_attacks post (aq_v n p h pe ad co re) x y) := by
  unfold aq_read
  dsimp only
  unfold wpY_attacks aq_v
  dsimp only
  rcases aq_c x h8 with z | ⟨a, ha, rfl⟩
  · exact ⟨-1, fun post H => ax_attacks_no h8 (Or.inl z) H, fun post H => ay_bad z (br_f (by decide) H)⟩
  · rcases aq_c y h8 with z | ⟨b, hb, rfl⟩
    · exact ⟨-1, fun post H => ax_attacks_no h8 (Or.inr z) H, fun post H => ay_good h8 ha (br_t rfl (ay_bad z (br_f (by decide) H)))⟩
    · refine ⟨aq_i (h a b), fun post H => ax_attacks h8 ha hb H, fun post H => ay_good h8 ha (br_t rfl (ay_good h8 hb (br_t rfl ?_)))⟩
      rw [aq_ix]
      exact ⟨vp_in_nI (by omega) (by decide), aq_bp (aq_hs_at (by omega) (by omega)) H⟩
/-- one answer, and one new picture for both -/
def aq_new (n : Nat) (pe ad co re : Nat → Int32) (WX : (Int32 → SX → Prop) → Prop) (WY : (Int32 → SY → Prop) → Prop) : Prop := ∃ r p' h', (∀ post : Int32 → SX → Prop, post r (aq_u n p' h') → WX post) ∧ (∀ post : Int32 → SY → Prop, post r (aq_v n p' h' pe ad co re) → WY post)
theorem a_attack (h8 : n ≤ 8) (x y f : Int32) : aq_new n pe ad co re (fun post => wpX_attack post (aq_u n p h) x y f) (fun post => wpY_attack post (aq_v n p h pe ad co re) x y f) := by
  unfold aq_new
  dsimp only
  unfold wpX_attack wpY_attack
  dsimp only
  rcases aq_c x h8 with z | ⟨a, ha, rfl⟩
  · exact ⟨-1, p, h, fun post H => ax_attacks_no h8 (Or.inl z) (br_f (by decide) H), fun post H => ay_bad z (br_f (by decide) H)⟩
  · rcases aq_c y h8 with z | ⟨b, hb, rfl⟩
    · exact ⟨-1, p, h, fun post H => ax_attacks_no h8 (Or.inr z) (br_f (by decide) H), fun post H => ay_good h8 ha (br_t rfl (ay_bad z (br_f (by decide) H)))⟩
    · have h1 : vp_in (nI a) 8 := vp_in_nI (by omega) (by decide)
      have h2 : vp_in (nI (8 * a + b)) 64 := vp_in_nI (by omega) (by decide)
      by_cases w : f = 0
      · refine ⟨aq_i (h a b), p, aq_put h a b false, fun post H => ax_attacks h8 ha hb (br_t (aq_i0 _) (br_t w ⟨h1, h1, nm_r ?_ H⟩)), fun post H => ay_good h8 ha (br_t rfl (ay_good h8 hb (br_t rfl ?_)))⟩
        · rw [nI_clamp (by omega), aq_pow (by omega), ← aq_t_out h hb]
          exact congrArg _ (aq_ndf _ _)
        · rw [aq_ix]
          have K : ∀ z0, post z0 (aq_v n p (aq_put h a b false) pe ad co re) → wY_attack_37 post (nI a) (nI b) f z0 (nI n) (nI (aq_P n p)) (aq_hs h) pe ad co re := by
            intro z0 H0
            unfold wY_attack_37
            rw [aq_ix, nI_clamp (by omega)]
            exact br_t w ⟨h2, nm_r (aq_hs_put h (by omega) false) H0⟩
          refine ⟨h2, aq_bx (aq_hs_at (by omega) (by omega)) (fun z => K 0 ?_) (fun z => K 1 ?_)⟩
          · rw [z] at H
            exact H
          · rw [z] at H
            exact H
      · refine ⟨aq_i (h a b), p, aq_put h a b true, fun post H => ax_attacks h8 ha hb (br_t (aq_i0 _) (br_f w ⟨h1, h1, nm_r ?_ H⟩)), fun post H => ay_good h8 ha (br_t rfl (ay_good h8 hb (br_t rfl ?_)))⟩
        · rw [nI_clamp (by omega), aq_pow (by omega), ← aq_t_in h hb]
          exact congrArg _ (aq_nor _ _)
        · rw [aq_ix]
          have K : ∀ z0, post z0 (aq_v n p (aq_put h a b true) pe ad co re) → wY_attack_37 post (nI a) (nI b) f z0 (nI n) (nI (aq_P n p)) (aq_hs h) pe ad co re := by
            intro z0 H0
            unfold wY_attack_37
            rw [aq_ix, nI_clamp (by omega)]
            exact br_f w ⟨h2, nm_r (aq_hs_put h (by omega) true) H0⟩
          refine ⟨h2, aq_bx (aq_hs_at (by omega) (by omega)) (fun z => K 0 ?_) (fun z => K 1 ?_)⟩
          · rw [z] at H
            exact H
          · rw [z] at H
            exact H
theorem a_play (h8 : n ≤ 8) (x f : Int32) : aq_new n pe ad co re (fun post => wpX_play post (aq_u n p h) x f) (fun post => wpY_play post (aq_v n p h pe ad co re) x f) := by
  unfold aq_new
  dsimp only
  unfold wpX_play wpY_play
  dsimp only
  rcases aq_c x h8 with z | ⟨c, hc, rfl⟩
  · exact ⟨-1, p, h, fun post H => ax_bad z (br_t rfl H), fun post H => ay_bad z (br_f (by decide) H)⟩
  · by_cases w : f = 0
    · have e : nI (aq_P n p) &&& ((1 : Int32) <<< (nI c &&& 31) ^^^ (-1)) = nI (aq_P n fun y => if y = c then false else p y) := by
        rw [aq_pow (by omega), aq_ndf]
        exact congrArg nI (aq_mk_out p hc)
      exact ⟨_, fun y => if y = c then false else p y, h, fun post H => ax_good h8 hc (br_f (by decide) (nm_e (br_t w (nm_r e H)))), fun post H => ay_good h8 hc (br_t rfl (nm_e (br_t w (nm_r e H))))⟩
    · have e : nI (aq_P n p) ||| ((1 : Int32) <<< (nI c &&& 31)) = nI (aq_P n fun y => if y = c then true else p y) := by
        rw [aq_pow (by omega), aq_nor]
        exact congrArg nI (aq_mk_in p hc)
      exact ⟨_, fun y => if y = c then true else p y, h, fun post H => ax_good h8 hc (br_f (by decide) (nm_e (br_f w (nm_r e H)))), fun post H => ay_good h8 hc (br_t rfl (nm_e (br_f w (nm_r e H))))⟩
end
theorem aq_mk_all (n : Nat) : (aq_mk n fun _ => true) = 2 ^ n - 1 := by
  apply Nat.eq_of_testBit_eq
  intro i
  rw [aq_mk_tb, Nat.testBit_two_pow_sub_one, Bool.and_true]
/-- a new object -/
theorem ax_new {post : SX → Prop} {n : Nat} (h8 : n ≤ 8) (H : post (aq_u n (fun _ => true) (fun _ _ => false))) : wX_init_30 post (nI n) 0 0 0 (fun _ => 0) := by
  have e1 : nI (2 ^ n) - 1 = nI (aq_P n fun _ => true) := by
    rw [aq_P, aq_mk_all]
    exact pk_sub (b := 1) (Nat.two_pow_pos n)
  have e2 : aq_t n (fun _ _ => false) = fun _ => 0 := by
    funext c
    show nI (aq_mk n fun _ => false) = 0
    rw [aq_mk_0]
    rfl
  refine nm_r (aq_pow (by omega)) (nm_r e1 ?_)
  rw [← e2]
  exact H
theorem ay_new {post : SY → Prop} {n : Nat} (h8 : n ≤ 8) (H : post (aq_v n (fun _ => true) (fun _ _ => false) (fun _ => 0) (fun _ => 0) (fun _ => 0) (fun _ => 0))) : wY_init_70 post (nI n) 0 0 (fun _ => 0) (fun _ => 0) (fun _ => 0) (fun _ => 0) (fun _ => 0) := by
  have e1 : ((1 : Int32) <<< (nI n &&& 31)) - 1 = nI (aq_P n fun _ => true) := by
    rw [aq_pow (by omega), aq_P, aq_mk_all]
    exact pk_sub (b := 1) (Nat.two_pow_pos n)
  exact nm_r e1 H

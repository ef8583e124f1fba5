/-! what is owed -/
/-- one picture of both states: n claims, p in play, h the attacks; the reference's tables are free -/
def i_Rel (k : Nat) (u : SX) (v : SY) : Prop := ∃ n p h pe ad co re, 2 ≤ n ∧ n ≤ 8 ∧ u = aq_u n p h ∧ v = aq_v n p h pe ad co re
theorem i_up {k : Nat} {u : SX} {v : SY} (h : i_Rel k u v) : i_Rel (k + 4) u v := h
theorem aq_rel {k n : Nat} (h2 : 2 ≤ n) (h8 : n ≤ 8) (p : Nat → Bool) (h : Nat → Nat → Bool) (pe ad co re : Nat → Int32) : i_Rel k (aq_u n p h) (aq_v n p h pe ad co re) := ⟨n, p, h, pe, ad, co, re, h2, h8, rfl, rfl⟩
theorem i_vc0 (k0 : Int32) : wpX_init (fun u => wpY_init (fun v => i_Rel 1 u v) k0) k0 := by
  have K : ∀ n, 2 ≤ n → n ≤ 8 → ∀ Q : SX → Prop, (∀ u, wY_init_70 (fun v => i_Rel 1 u v) (nI n) 0 0 (fun _ => 0) (fun _ => 0) (fun _ => 0) (fun _ => 0) (fun _ => 0) → Q u) → wX_init_30 Q (nI n) 0 0 0 (fun _ => 0) := fun n h2 h8 Q HQ => ax_new h8 (HQ _ (ay_new h8 (aq_rel h2 h8 _ _ _ _ _ _)))
  by_cases z : 2 ≤ k0
  · by_cases w : k0 ≤ 8
    · obtain ⟨n, hn, rfl⟩ := nI_of2 (x := k0) (M := 8) (n := 8) (by decide) (fun q => absurd (Int32.lt_of_le_of_lt z q) (by decide)) w
      have h2 : 2 ≤ n := (nI_leI (a := 2) (by decide) (by omega)).mp z
      exact br_t z (br_t w (K n h2 hn _ fun u H => br_t z (br_t w H)))
    · exact br_t z (br_f w (K 8 (by decide) (by decide) _ fun u H => br_t z (br_f w H)))
  · exact br_f z (br_t (by decide) (K 2 (by decide) (by decide) _ fun u H => br_f z H))
theorem i_vc_claims {k : Nat} {u : SX} {v : SY} (I : i_Rel k u v) (hk : k + 4 ≤ 2049) : wpX_claims (fun r => wpY_claims (fun r' => r' = r ∧ i_Rel (k + 4) u v) v) u := by
  obtain ⟨n, p, h, pe, ad, co, re, h2, h8, rfl, rfl⟩ := I
  exact ⟨rfl, aq_rel h2 h8 p h pe ad co re⟩
theorem i_vc_attack {k : Nat} {u : SX} {v : SY} (I : i_Rel k u v) (hk : k + 4 ≤ 2049) (v1 : Int32) (v2 : Int32) (v3 : Int32) : wpX_attack (fun r u' => wpY_attack (fun r' v' => r' = r ∧ i_Rel (k + 4) u' v') v v1 v2 v3) u v1 v2 v3 := by
  obtain ⟨n, p, h, pe, ad, co, re, h2, h8, rfl, rfl⟩ := I
  obtain ⟨r, p', h', hX, hY⟩ := a_attack (p := p) (h := h) (pe := pe) (ad := ad) (co := co) (re := re) h8 v1 v2 v3
  exact hX _ (hY _ ⟨rfl, aq_rel h2 h8 _ _ _ _ _ _⟩)
theorem i_vc_attacks {k : Nat} {u : SX} {v : SY} (I : i_Rel k u v) (hk : k + 4 ≤ 2049) (v1 : Int32) (v2 : Int32) : wpX_attacks (fun r => wpY_attacks (fun r' => r' = r ∧ i_Rel (k + 4) u v) v v1 v2) u v1 v2 := by
  obtain ⟨n, p, h, pe, ad, co, re, h2, h8, rfl, rfl⟩ := I
  obtain ⟨r, hX, hY⟩ := a_attacks (p := p) (h := h) (pe := pe) (ad := ad) (co := co) (re := re) h8 v1 v2
  exact hX _ (hY _ ⟨rfl, aq_rel h2 h8 _ _ _ _ _ _⟩)
theorem i_vc_play {k : Nat} {u : SX} {v : SY} (I : i_Rel k u v) (hk : k + 4 ≤ 2049) (v1 : Int32) (v2 : Int32) : wpX_play (fun r u' => wpY_play (fun r' v' => r' = r ∧ i_Rel (k + 4) u' v') v v1 v2) u v1 v2 := by
  obtain ⟨n, p, h, pe, ad, co, re, h2, h8, rfl, rfl⟩ := I
  obtain ⟨r, p', h', hX, hY⟩ := a_play (p := p) (h := h) (pe := pe) (ad := ad) (co := co) (re := re) h8 v1 v2
  exact hX _ (hY _ ⟨rfl, aq_rel h2 h8 _ _ _ _ _ _⟩)
theorem i_vc_grounded {k : Nat} {u : SX} {v : SY} (I : i_Rel k u v) (hk : k + 4 ≤ 2049) : wpX_grounded (fun r => wpY_grounded (fun r' v' => r' = r ∧ i_Rel (k + 4) u v') v) u := by
  obtain ⟨n, p, h, pe, ad, co, re, h2, h8, rfl, rfl⟩ := I
  obtain ⟨r, hX, hY⟩ := a_grounded (p := p) (h := h) (pe := pe) (ad := ad) (co := co) (re := re) h8
  exact hX _ (hY _ (fun _ _ _ _ => ⟨rfl, aq_rel h2 h8 _ _ _ _ _ _⟩))
theorem i_vc_groundedLabel {k : Nat} {u : SX} {v : SY} (I : i_Rel k u v) (hk : k + 4 ≤ 2049) (v1 : Int32) : wpX_groundedLabel (fun r => wpY_groundedLabel (fun r' v' => r' = r ∧ i_Rel (k + 4) u v') v v1) u v1 := by
  obtain ⟨n, p, h, pe, ad, co, re, h2, h8, rfl, rfl⟩ := I
  obtain ⟨r, hX, hY⟩ := a_label (p := p) (h := h) (pe := pe) (ad := ad) (co := co) (re := re) h8 v1
  exact hX _ (hY _ (fun _ _ _ _ => ⟨rfl, aq_rel h2 h8 _ _ _ _ _ _⟩))
theorem i_vc_is {k : Nat} {u : SX} {v : SY} (I : i_Rel k u v) (hk : k + 4 ≤ 2049) (v1 : Int32) (v2 : Int32) : wpX_is (fun r => wpY_is (fun r' v' => r' = r ∧ i_Rel (k + 4) u v') v v1 v2) u v1 v2 := by
  obtain ⟨n, p, h, pe, ad, co, re, h2, h8, rfl, rfl⟩ := I
  obtain ⟨r, hX, hY⟩ := a_is (p := p) (h := h) (pe := pe) (ad := ad) (co := co) (re := re) h8 v1 v2
  exact hX _ (hY _ (fun _ _ _ _ => ⟨rfl, aq_rel h2 h8 _ _ _ _ _ _⟩))
theorem i_vc_count {k : Nat} {u : SX} {v : SY} (I : i_Rel k u v) (hk : k + 4 ≤ 2049) (v1 : Int32) : wpX_count (fun r => wpY_count (fun r' v' => r' = r ∧ i_Rel (k + 4) u v') v v1) u v1 := by
  obtain ⟨n, p, h, pe, ad, co, re, h2, h8, rfl, rfl⟩ := I
  obtain ⟨r, hX, hY⟩ := a_count (p := p) (h := h) (pe := pe) (ad := ad) (co := co) (re := re) h8 v1
  exact hX _ (hY _ (fun _ _ _ _ => ⟨rfl, aq_rel h2 h8 _ _ _ _ _ _⟩))
theorem i_vc_nth {k : Nat} {u : SX} {v : SY} (I : i_Rel k u v) (hk : k + 4 ≤ 2049) (v1 : Int32) (v2 : Int32) : wpX_nth (fun r => wpY_nth (fun r' v' => r' = r ∧ i_Rel (k + 4) u v') v v1 v2) u v1 v2 := by
  obtain ⟨n, p, h, pe, ad, co, re, h2, h8, rfl, rfl⟩ := I
  obtain ⟨r, hX, hY⟩ := a_nth (p := p) (h := h) (pe := pe) (ad := ad) (co := co) (re := re) h8 v1 v2
  exact hX _ (hY _ (fun _ _ _ _ => ⟨rfl, aq_rel h2 h8 _ _ _ _ _ _⟩))
theorem i_vc_possible {k : Nat} {u : SX} {v : SY} (I : i_Rel k u v) (hk : k + 4 ≤ 2049) (v1 : Int32) (v2 : Int32) : wpX_possible (fun r => wpY_possible (fun r' v' => r' = r ∧ i_Rel (k + 4) u v') v v1 v2) u v1 v2 := by
  obtain ⟨n, p, h, pe, ad, co, re, h2, h8, rfl, rfl⟩ := I
  obtain ⟨r, hX, hY⟩ := a_possible (p := p) (h := h) (pe := pe) (ad := ad) (co := co) (re := re) h8 v1 v2
  exact hX _ (hY _ (fun _ _ _ _ => ⟨rfl, aq_rel h2 h8 _ _ _ _ _ _⟩))
theorem i_vc_certain {k : Nat} {u : SX} {v : SY} (I : i_Rel k u v) (hk : k + 4 ≤ 2049) (v1 : Int32) (v2 : Int32) : wpX_certain (fun r => wpY_certain (fun r' v' => r' = r ∧ i_Rel (k + 4) u v') v v1 v2) u v1 v2 := by
  obtain ⟨n, p, h, pe, ad, co, re, h2, h8, rfl, rfl⟩ := I
  obtain ⟨r, hX, hY⟩ := a_certain (p := p) (h := h) (pe := pe) (ad := ad) (co := co) (re := re) h8 v1 v2
  exact hX _ (hY _ (fun _ _ _ _ => ⟨rfl, aq_rel h2 h8 _ _ _ _ _ _⟩))
theorem i_vc_core {k : Nat} {u : SX} {v : SY} (I : i_Rel k u v) (hk : k + 4 ≤ 2049) (v1 : Int32) : wpX_core (fun r => wpY_core (fun r' v' => r' = r ∧ i_Rel (k + 4) u v') v v1) u v1 := by
  obtain ⟨n, p, h, pe, ad, co, re, h2, h8, rfl, rfl⟩ := I
  obtain ⟨r, hX, hY⟩ := a_core (p := p) (h := h) (pe := pe) (ad := ad) (co := co) (re := re) h8 v1
  exact hX _ (hY _ (fun _ _ _ _ => ⟨rfl, aq_rel h2 h8 _ _ _ _ _ _⟩))
theorem i_vc_range {k : Nat} {u : SX} {v : SY} (I : i_Rel k u v) (hk : k + 4 ≤ 2049) (v1 : Int32) : wpX_range (fun r => wpY_range (fun r' => r' = r ∧ i_Rel (k + 4) u v) v v1) u v1 := by
  obtain ⟨n, p, h, pe, ad, co, re, h2, h8, rfl, rfl⟩ := I
  obtain ⟨r, hX, hY⟩ := a_range (p := p) (h := h) (pe := pe) (ad := ad) (co := co) (re := re) h8 v1
  exact hX _ (hY _ ⟨rfl, aq_rel h2 h8 _ _ _ _ _ _⟩)
theorem i_vc_defended {k : Nat} {u : SX} {v : SY} (I : i_Rel k u v) (hk : k + 4 ≤ 2049) (v1 : Int32) : wpX_defended (fun r => wpY_defended (fun r' => r' = r ∧ i_Rel (k + 4) u v) v v1) u v1 := by
  obtain ⟨n, p, h, pe, ad, co, re, h2, h8, rfl, rfl⟩ := I
  obtain ⟨r, hX, hY⟩ := a_defended (p := p) (h := h) (pe := pe) (ad := ad) (co := co) (re := re) h8 v1
  exact hX _ (hY _ ⟨rfl, aq_rel h2 h8 _ _ _ _ _ _⟩)
theorem i_vc_ideal {k : Nat} {u : SX} {v : SY} (I : i_Rel k u v) (hk : k + 4 ≤ 2049) : wpX_ideal (fun r => wpY_ideal (fun r' v' => r' = r ∧ i_Rel (k + 4) u v') v) u := by
  obtain ⟨n, p, h, pe, ad, co, re, h2, h8, rfl, rfl⟩ := I
  obtain ⟨r, hX, hY⟩ := a_ideal (p := p) (h := h) h8 pe ad co re
  exact hX _ (hY _ (fun _ _ _ _ => ⟨rfl, aq_rel h2 h8 _ _ _ _ _ _⟩))

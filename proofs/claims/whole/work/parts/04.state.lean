/-! the calls that change the state -/
section
variable {c g t : Nat → Int32} {L : Nat → Nat}
theorem pz_X_pat1 {p : Nat} (hp : p < 4) {post : Int32 → Prop} (h : post 1) : wpX_isPattern post (nI p) :=
  br_f (nI_pos (by omega)) (br_f (nI_ge (b := 4) hp (by decide)) h)
theorem pz_Y_pat1 {p : Nat} (hp : p < 4) {post : Int32 → Prop} (h : post 1) : wpY_pattern post (g, t) (nI p) :=
  br_f (nI_pos (by omega)) (br_f (nI_nlt (a := 3) (b := p) (by omega) (by decide)) h)
theorem pz_X_pat0 {x : Int32} (hx : x < 0 ∨ nI 4 ≤ x) {post : Int32 → Prop} (h : post 0) : wpX_isPattern post x := by
  by_cases z : x < 0
  · exact br_t z h
  · exact br_f z (br_t (hx.resolve_left z) h)
theorem pz_lt_of_le {a b : Nat} (x : Int32) (hab : a < b) (hb : b < 2 ^ 31) (h : nI b ≤ x) : nI a < x := by
  have h1 := Int32.le_iff_toInt_le.mp h
  rw [nI_toInt hb] at h1
  apply Int32.lt_iff_toInt_lt.mpr
  rw [nI_toInt (by omega)]
  omega
theorem pz_Y_pat0 {x : Int32} (hx : x < 0 ∨ nI 4 ≤ x) {post : Int32 → Prop} (h : post 0) : wpY_pattern post (g, t) x := by
  by_cases z : x < 0
  · exact br_t z h
  · exact br_f z (br_t (pz_lt_of_le (a := 3) x (by decide) (by decide) (hx.resolve_left z)) h)
theorem pz_pat (x : Int32) : (x < 0 ∨ nI 4 ≤ x) ∨ ∃ p : Nat, p < 4 ∧ x = nI p := by
  rcases pk_ix x (n := 4) (by decide) with h | h | h
  · exact Or.inl (Or.inl h)
  · exact Or.inl (Or.inr h)
  · exact Or.inr h
theorem pz_X_full (H : pz_R c g t L) {l r : Nat} (hl : l < 5) (hr : r ≤ 25) {x : Int32} (hf : pz_cm t L l = 1 ∨ r ≤ L l) {post : Int32 → SX → Prop} (h : post (-2) (c, g)) : wpX_append post (c, g) (nI l) (nI r) x := by
  have hL := pz_L25 H hl
  refine And.intro (vp_in_nI hl (by decide)) ?_
  rw [pz_gl H hl]
  intro y ey
  subst ey
  by_cases z : r ≤ L l
  · exact br_t (nI_le z (by omega)) h
  · have h1 := hf.resolve_right z
    exact br_f (nI_ge (by omega) (by omega)) (pz_X_comp H hl (br_f (by rw [h1]; decide) h))
theorem pz_Y_full (H : pz_R c g t L) {l r : Nat} (hl : l < 5) (hr : r ≤ 25) {x : Int32} (hf : pz_cm t L l = 1 ∨ r ≤ L l) {post : Int32 → SY → Prop} (h : post (-2) (g, t)) : wpY_append post (g, t) (nI l) x (nI r) := by
  have hL := pz_L25 H hl
  refine pz_Y_done H hl ?_
  rcases pz_cm01 t L l with h1 | h1
  · have z : r ≤ L l := hf.resolve_left (by rw [h1]; decide)
    refine br_t h1 (And.intro (vp_in_nI hl (by decide)) ?_)
    rw [pz_gl H hl]
    exact br_f (nI_nlt z (by omega)) h
  · exact br_f (by rw [h1]; decide) h
theorem pz_X_add (H : pz_R c g t L) {l r : Nat} (hl : l < 5) (hr : r ≤ 25) {x : Int32} (hc : pz_cm t L l = 0) (hf : L l < r) (hi : 9 * l + L l < 61) {post : Int32 → SX → Prop} (h : post (nI (L l + 1)) (upd c (9 * l + L l) x, upd g l (nI (L l + 1)))) : wpX_append post (c, g) (nI l) (nI r) x := by
  have hL := pz_L25 H hl
  refine And.intro (vp_in_nI hl (by decide)) ?_
  rw [pz_gl H hl]
  intro y ey
  subst ey
  refine br_f (nI_ge (by omega) (by omega)) (pz_X_comp H hl (br_t hc ?_))
  rw [pz_eX]
  refine And.intro (vp_in_nI hi (by decide)) ?_
  intro a ea
  refine And.intro (vp_in_nI hl (by decide)) ?_
  intro b eb
  rw [nI_clamp (by omega)] at ea eb
  rw [nI_1] at eb
  rw [nI_1]
  subst ea eb
  exact h
theorem pz_Y_add (H : pz_R c g t L) {l r : Nat} (hl : l < 5) (hr : r ≤ 25) {x : Int32} (hc : pz_cm t L l = 0) (hf : L l < r) {post : Int32 → SY → Prop} (h : post (nI (L l + 1)) (upd g l (nI (L l + 1)), upd t (25 * l + L l) x)) : wpY_append post (g, t) (nI l) x (nI r) := by
  have hL := pz_L25 H hl
  refine pz_Y_done H hl (br_t hc (And.intro (vp_in_nI hl (by decide)) ?_))
  rw [pz_gl H hl, pz_eY]
  refine br_t (nI_lt hf (by omega)) (And.intro (vp_in_nI hl (by decide)) (And.intro (vp_in_nI (by omega) (by decide)) ?_))
  intro a ea
  refine And.intro (vp_in_nI hl (by decide)) (And.intro (vp_in_nI hl (by decide)) ?_)
  intro b eb
  refine And.intro (vp_in_nI hl (by decide)) ?_
  rw [nI_clamp (by omega)] at ea eb
  rw [nI_1] at eb
  subst ea eb
  rw [nI_clamp (by omega), pk_us]
  exact h
theorem pz_R_add (H : pz_R c g t L) {l r j : Nat} (hr : (l < 4 ∧ r = 9) ∨ (l = 4 ∧ r = 25)) (hf : L l < r) (hj : j < 8) : pz_R (upd c (9 * l + L l) (nI j)) (upd g l (nI (L l + 1))) (upd t (25 * l + L l) (nI j)) (fun m => if m = l then L l + 1 else L m) := by
  have hl : l < 5 := by omega
  have hLl := pz_L25 H hl
  refine ⟨?_, ?_, ?_, ?_, ?_⟩
  · intro m hm
    by_cases z : m = l
    · subst z; rw [pk_us]; simp only [if_true]
    · rw [pk_un z]; simp only [if_neg z]; exact H.1 m hm
  · intro m hm
    have := H.2.1 m hm
    by_cases z : m = l
    · subst z; simp only [if_true]; omega
    · simp only [if_neg z]; exact this
  · have := H.2.2.1
    by_cases z : 4 = l
    · subst z; simp only [if_true]; omega
    · simp only [if_neg z]; exact this
  · intro m i hm hi
    by_cases z : m = l
    · subst z
      simp only [if_true] at hi
      by_cases w : i = L m
      · subst w; rw [pk_us, pk_us]
      · rw [pk_un (by omega), pk_un (by omega)]
        exact H.2.2.2.1 m i hm (by omega)
    · simp only [if_neg z] at hi
      have h4 := H.2.1 m
      have hm25 := pz_L25 H hm
      rw [pk_un (by omega), pk_un (by omega)]
      exact H.2.2.2.1 m i hm hi
  · intro m i hm hi
    by_cases z : m = l
    · subst z
      simp only [if_true] at hi
      by_cases w : i = L m
      · subst w; rw [pk_us]; exact ⟨j, hj, rfl⟩
      · rw [pk_un (by omega)]
        exact H.2.2.2.2 m i hm (by omega)
    · simp only [if_neg z] at hi
      have h4 := H.2.1 m
      have hm25 := pz_L25 H hm
      rw [pk_un (by omega)]
      exact H.2.2.2.2 m i hm hi
theorem pz_app (H : pz_R c g t L) (k : Nat) {l r j : Nat} (hr : (l < 4 ∧ r = 9) ∨ (l = 4 ∧ r = 25)) (hj : j < 8) : ∃ (a : Int32) (c' g' t' : Nat → Int32), (∀ post : Int32 → SX → Prop, post a (c', g') → wpX_append post (c, g) (nI l) (nI r) (nI j)) ∧ (∀ post : Int32 → SY → Prop, post a (g', t') → wpY_append post (g, t) (nI l) (nI j) (nI r)) ∧ i_Rel k (c', g') (g', t') := by
  have hl : l < 5 := by omega
  have hr25 : r ≤ 25 := by omega
  by_cases z : r ≤ L l
  · exact ⟨-2, c, g, t, fun _ h => pz_X_full H hl hr25 (Or.inr z) h, fun _ h => pz_Y_full H hl hr25 (Or.inr z) h, rfl, L, H⟩
  rcases pz_cm01 t L l with hc | hc
  · exact ⟨_, _, _, _, fun _ h => pz_X_add H hl hr25 hc (by omega) (by omega) h, fun _ h => pz_Y_add H hl hr25 hc (by omega) h, rfl, _, pz_R_add H hr (by omega) hj⟩
  · exact ⟨-2, c, g, t, fun _ h => pz_X_full H hl hr25 (Or.inl hc) h, fun _ h => pz_Y_full H hl hr25 (Or.inl hc) h, rfl, L, H⟩
theorem pz_R_take (H : pz_R c g t L) {l : Nat} (hl : l < 5) : pz_R c (upd g l (nI (L l - 1))) t (fun m => if m = l then L l - 1 else L m) := by
  refine ⟨?_, ?_, ?_, ?_, ?_⟩
  · intro m hm
    by_cases z : m = l
    · subst z; rw [pk_us]; simp only [if_true]
    · rw [pk_un z]; simp only [if_neg z]; exact H.1 m hm
  · intro m hm
    have := H.2.1 m hm
    by_cases z : m = l
    · subst z; simp only [if_true]; omega
    · simp only [if_neg z]; exact this
  · have := H.2.2.1
    by_cases z : 4 = l
    · subst z; simp only [if_true]; omega
    · simp only [if_neg z]; exact this
  · intro m i hm hi
    by_cases z : m = l
    · subst z
      simp only [if_true] at hi
      exact H.2.2.2.1 m i hm (by omega)
    · simp only [if_neg z] at hi
      exact H.2.2.2.1 m i hm hi
  · intro m i hm hi
    by_cases z : m = l
    · subst z
      simp only [if_true] at hi
      exact H.2.2.2.2 m i hm (by omega)
    · simp only [if_neg z] at hi
      exact H.2.2.2.2 m i hm hi
theorem pz_take (H : pz_R c g t L) (k : Nat) {l : Nat} (hl : l < 5) : ∃ (a : Int32) (g' : Nat → Int32), (∀ post : Int32 → SX → Prop, post a (c, g') → wpX_takeLast post (c, g) (nI l)) ∧ (∀ post : Int32 → SY → Prop, post a (g', t) → wpY_take post (g, t) (nI l)) ∧ i_Rel k (c, g') (g', t) := by
  have hL := pz_L25 H hl
  have hi := vp_in_nI hl (N := 5) (by decide)
  by_cases z : L l = 0
  · have e : g (nI l).toNatClampNeg = 0 := by rw [pz_gl H hl, z]; rfl
    exact ⟨-1, g, fun _ h => And.intro hi (br_t e h), fun _ h => And.intro hi (br_t e h), rfl, L, H⟩
  · have e : ¬ g (nI l).toNatClampNeg = 0 := by rw [pz_gl H hl]; exact nI_ne0 (by omega) (by omega)
    have e1 : g (nI l).toNatClampNeg - 1 = nI (L l - 1) := by
      rw [pz_gl H hl, show (1 : Int32) = nI 1 from rfl, pk_sub (by omega)]
    refine ⟨pz_F t l (L l - 1), upd g l (nI (L l - 1)), ?_, ?_, rfl, _, pz_R_take H hl⟩
    · intro post h
      refine And.intro hi (br_f e (And.intro hi ?_))
      intro y ey
      rw [e1] at ey
      subst ey
      refine pz_tok H hl (by omega) (And.intro hi ?_)
      intro b eb
      rw [nI_clamp (by omega)] at eb
      subst eb
      exact h
    · intro post h
      refine And.intro hi (br_f e (And.intro hi (And.intro hi ?_)))
      intro a ea
      rw [e1, nI_clamp (by omega)] at ea
      subst ea
      refine And.intro hi ?_
      rw [nI_clamp (by omega), pk_us]
      refine And.intro (pz_inY H hl (by omega)) ?_
      rw [pz_tY H hl (by omega)]
      exact h
end
theorem i_vc_extend {k : Nat} {u : SX} {v : SY} (I : i_Rel k u v) (hk : k + 4 ≤ 2048) (v1 : Int32) (v2 : Int32) : wpX_extend (fun r u' => wpY_extend (fun r' v' => r' = r ∧ i_Rel (k + 4) u' v') v v1 v2) u v1 v2 := by
  obtain ⟨c, g⟩ := u
  obtain ⟨g', t⟩ := v
  obtain ⟨e, L, H⟩ := I
  cases e
  unfold wpX_extend wpY_extend
  dsimp only
  rcases pz_pat v1 with hp | ⟨p, hp, rfl⟩
  · exact pz_X_pat0 hp (br_t rfl (pz_Y_pat0 hp (br_t rfl ⟨rfl, rfl, L, H⟩)))
  · refine pz_X_pat1 hp (br_f (by decide) ?_)
    rcases pk_ix v2 (n := 8) (by decide) with h | h | ⟨j, hj, rfl⟩
    · exact br_t h (pz_Y_pat1 hp (br_f (by decide) (br_t h ⟨rfl, rfl, L, H⟩)))
    · have h0 : ¬ v2 < 0 := fun w => absurd (Int32.lt_of_lt_of_le w (Int32.le_trans (by decide : (0 : Int32) ≤ nI 8) h)) (Int32.lt_irrefl)
      exact br_f h0 (br_f (Int32.not_lt.mpr h) (pz_Y_pat1 hp (br_f (by decide) (br_f h0 (br_t (pz_lt_of_le (a := 7) v2 (by decide) (by decide) h) ⟨rfl, rfl, L, H⟩)))))
    · obtain ⟨a, c', g', t', hX, hY, hR⟩ := pz_app H (k + 4) (l := p) (r := 9) (Or.inl ⟨hp, rfl⟩) hj
      have h8 : nI j < 8 := nI_lt (b := 8) hj (by decide)
      have h7 : ¬ 7 < nI j := nI_nlt (a := 7) (b := j) (by omega) (by decide)
      exact br_f (nI_pos (by omega)) (br_t h8 (hX _ (pz_Y_pat1 hp (br_f (by decide) (br_f (nI_pos (by omega)) (br_f h7 (hY _ ⟨rfl, hR⟩)))))))
theorem i_vc_shorten {k : Nat} {u : SX} {v : SY} (I : i_Rel k u v) (hk : k + 4 ≤ 2048) (v1 : Int32) : wpX_shorten (fun r u' => wpY_shorten (fun r' v' => r' = r ∧ i_Rel (k + 4) u' v') v v1) u v1 := by
  obtain ⟨c, g⟩ := u
  obtain ⟨g', t⟩ := v
  obtain ⟨e, L, H⟩ := I
  cases e
  unfold wpX_shorten wpY_shorten
  dsimp only
  rcases pz_pat v1 with hp | ⟨p, hp, rfl⟩
  · exact pz_X_pat0 hp (br_t rfl (pz_Y_pat0 hp (br_t rfl ⟨rfl, rfl, L, H⟩)))
  · obtain ⟨a, g', hX, hY, hR⟩ := pz_take H (k + 4) (l := p) (by omega)
    exact pz_X_pat1 hp (br_f (by decide) (hX _ (pz_Y_pat1 hp (br_f (by decide) (hY _ ⟨rfl, hR⟩)))))
theorem i_vc_grow {k : Nat} {u : SX} {v : SY} (I : i_Rel k u v) (hk : k + 4 ≤ 2048) (v1 : Int32) : wpX_grow (fun r u' => wpY_grow (fun r' v' => r' = r ∧ i_Rel (k + 4) u' v') v v1) u v1 := by
  obtain ⟨c, g⟩ := u
  obtain ⟨g', t⟩ := v
  obtain ⟨e, L, H⟩ := I
  cases e
  unfold wpX_grow wpY_grow
  dsimp only
  rcases pk_ix v1 (n := 7) (by decide) with h | h | ⟨j, hj, rfl⟩
  · exact br_t h (br_t h ⟨rfl, rfl, L, H⟩)
  · have h0 : ¬ v1 < 0 := fun w => absurd (Int32.lt_of_lt_of_le w (Int32.le_trans (by decide : (0 : Int32) ≤ nI 7) h)) (Int32.lt_irrefl)
    exact br_f h0 (br_f (Int32.not_lt.mpr h) (br_f h0 (br_t (pz_lt_of_le (a := 6) v1 (by decide) (by decide) h) ⟨rfl, rfl, L, H⟩)))
  · obtain ⟨a, c', g', t', hX, hY, hR⟩ := pz_app H (k + 4) (l := 4) (r := 25) (Or.inr ⟨rfl, rfl⟩) (j := j) (by omega)
    have h7 : nI j < 7 := nI_lt (b := 7) hj (by decide)
    have h6 : ¬ 6 < nI j := nI_nlt (a := 6) (b := j) (by omega) (by decide)
    exact br_f (nI_pos (by omega)) (br_t h7 (hX _ (br_f (nI_pos (by omega)) (br_f h6 (hY _ ⟨rfl, hR⟩)))))
theorem i_vc_prune {k : Nat} {u : SX} {v : SY} (I : i_Rel k u v) (hk : k + 4 ≤ 2048) : wpX_prune (fun r u' => wpY_prune (fun r' v' => r' = r ∧ i_Rel (k + 4) u' v') v) u := by
  obtain ⟨c, g⟩ := u
  obtain ⟨g', t⟩ := v
  obtain ⟨e, L, H⟩ := I
  cases e
  unfold wpX_prune wpY_prune
  dsimp only
  obtain ⟨a, g', hX, hY, hR⟩ := pz_take H (k + 4) (l := 4) (by omega)
  exact hX _ (hY _ ⟨rfl, hR⟩)
theorem i_vc_complete {k : Nat} {u : SX} {v : SY} (I : i_Rel k u v) (hk : k + 4 ≤ 2048) (v1 : Int32) : wpX_complete (fun r => wpY_complete (fun r' => r' = r ∧ i_Rel (k + 4) u v) v v1) u v1 := by
  obtain ⟨c, g⟩ := u
  obtain ⟨g', t⟩ := v
  obtain ⟨e, L, H⟩ := I
  cases e
  unfold wpX_complete wpY_complete
  dsimp only
  rcases pz_pat v1 with hp | ⟨p, hp, rfl⟩
  · exact pz_X_pat0 hp (br_t rfl (pz_Y_pat0 hp (br_t rfl ⟨rfl, rfl, L, H⟩)))
  · refine pz_X_pat1 hp (br_f (by decide) (pz_X_comp H (by omega) ?_))
    rcases pz_cm01 t L p with h | h
    · exact br_t h (pz_Y_pat1 hp (br_f (by decide) (pz_Y_done H (by omega) (br_t h ⟨rfl, rfl, L, H⟩))))
    · have h' : ¬ pz_cm t L p = 0 := by rw [h]; decide
      exact br_f h' (pz_Y_pat1 hp (br_f (by decide) (pz_Y_done H (by omega) (br_f h' ⟨rfl, rfl, L, H⟩))))
theorem pz_nar {x : Int32} (h : x = 0 ∨ x = 1) : narrow .boolean (.int x) = .int x := by
  rcases h with h | h <;> rw [h] <;> rfl
theorem pz_X_whole {c g t : Nat → Int32} {L : Nat → Nat} (H : pz_R c g t L) {post : Int32 → Prop} (h : post (pz_cm t L 4)) : wpX_whole post (c, g) := by
  unfold wpX_whole
  dsimp only
  exact pz_X_comp H (l := 4) (by decide) ⟨pz_nar (pz_cm01 t L 4), h⟩
theorem i_vc_whole {k : Nat} {u : SX} {v : SY} (I : i_Rel k u v) (hk : k + 4 ≤ 2048) : wpX_whole (fun r => wpY_whole (fun r' => r' = r ∧ i_Rel (k + 4) u v) v) u := by
  obtain ⟨c, g⟩ := u
  obtain ⟨g', t⟩ := v
  obtain ⟨e, L, H⟩ := I
  cases e
  refine pz_X_whole H ?_
  unfold wpY_whole
  dsimp only
  exact pz_Y_done H (l := 4) (by decide) ⟨pz_nar (pz_cm01 t L 4), rfl, rfl, L, H⟩

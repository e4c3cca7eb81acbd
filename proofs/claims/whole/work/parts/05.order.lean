/-- the text up to e with one smallest letter behind it -/
def rh_b (a : Nat → Int32) (e m : Nat) : Int := if m < e then (a m).toInt else -4294967296
/-- the stretch from x to e is smaller than that from y to e -/
def rh_lt (a : Nat → Int32) (e x y : Nat) : Prop := ∃ k : Nat, (∀ m : Nat, m < k → rh_b a e (x + m) = rh_b a e (y + m)) ∧ rh_b a e (x + k) < rh_b a e (y + k)
theorem rh_in {a : Nat → Int32} {e m : Nat} (h : m < e) : rh_b a e m = (a m).toInt := if_pos h
theorem rh_ou {a : Nat → Int32} {e m : Nat} (h : e ≤ m) : rh_b a e m = -4294967296 := if_neg (by omega)
theorem rh_low {a : Nat → Int32} {e x y : Nat} (hx : e ≤ x) (hy : y < e) : rh_b a e x < rh_b a e y := by
  rw [rh_ou hx, rh_in hy]
  have h := Int32.le_toInt (a y)
  omega
theorem rh_trans {a : Nat → Int32} {e x y z : Nat} (h1 : rh_lt a e x y) (h2 : rh_lt a e y z) : rh_lt a e x z := by
  obtain ⟨k, p1, q1⟩ := h1
  obtain ⟨l, p2, q2⟩ := h2
  by_cases h : k < l
  · refine ⟨k, fun m hm => (p1 m hm).trans (p2 m (by omega)), ?_⟩
    rw [← p2 k h]; exact q1
  · by_cases h' : l < k
    · refine ⟨l, fun m hm => (p1 m (by omega)).trans (p2 m hm), ?_⟩
      rw [p1 l h']; exact q2
    · have e1 : k = l := by omega
      subst e1
      exact ⟨k, fun m hm => (p1 m hm).trans (p2 m hm), Int.lt_trans q1 q2⟩
theorem rh_irr {a : Nat → Int32} {e x : Nat} (h : rh_lt a e x x) : False := by
  obtain ⟨k, _, q⟩ := h
  exact Int.lt_irrefl _ q
/-- m begins the smallest stretch to e of those that begin from lo on and before hi -/
def rh_L (a : Nat → Int32) (e lo hi m : Nat) : Prop := lo ≤ m ∧ m < hi ∧ ∀ x : Nat, lo ≤ x → x < hi → x ≠ m → rh_lt a e m x
theorem rh_uni {a : Nat → Int32} {e lo hi m m' : Nat} (h : rh_L a e lo hi m) (h' : rh_L a e lo hi m') : m = m' := by
  by_cases z : m = m'
  · exact z
  · exact (rh_irr (rh_trans (h.2.2 m' h'.1 h'.2.1 (fun e => z e.symm)) (h'.2.2 m h.1 h.2.1 z))).elim
theorem rh_sX (L : Int32) (a : Nat → Int32) (e x y : Nat) (hxy : x < y) (he : e ≤ 32) (hy : y < e) : ∀ d k : Nat, y + k + d = e → (∀ m : Nat, m < k → rh_b a e (x + m) = rh_b a e (y + m)) → (rh_lt a e x y ∧ ∀ post : Int32 → Prop, post 1 → wX_isSmaller_3 post (nI x) (nI y) (nI e) L a (d + 1) (nI k)) ∨ (rh_lt a e y x ∧ ∀ post : Int32 → Prop, post 0 → wX_isSmaller_3 post (nI x) (nI y) (nI e) L a (d + 1) (nI k)) := by
  intro d
  induction d with
  | zero =>
    intro k hk hm
    refine Or.inr ⟨⟨k, fun m h => (hm m h).symm, rh_low (by omega) (by omega)⟩, fun post hp => br_t ?_ hp⟩
    rw [nI_add]
    exact nI_le (by omega) (by omega)
  | succ d ih =>
    intro k hk hm
    have c : ¬ nI e ≤ nI y + nI k := by rw [nI_add]; exact nI_ge (by omega) (by omega)
    have i1 : vp_in (nI x + nI k) 32 := pk_in (x + k) 32 (by omega) (nI_add x k)
    have i2 : vp_in (nI y + nI k) 32 := pk_in (y + k) 32 (by omega) (nI_add y k)
    have w1 : (nI x + nI k).toNatClampNeg = x + k := pk_cl (x + k) (nI_add x k)
    have w2 : (nI y + nI k).toNatClampNeg = y + k := pk_cl (y + k) (nI_add y k)
    have b1 : rh_b a e (x + k) = (a (x + k)).toInt := rh_in (by omega)
    have b2 : rh_b a e (y + k) = (a (y + k)).toInt := rh_in (by omega)
    by_cases z : a (x + k) = a (y + k)
    · have zX : a (nI x + nI k).toNatClampNeg = a (nI y + nI k).toNatClampNeg := by rw [w1, w2]; exact z
      have hm' : ∀ m : Nat, m < k + 1 → rh_b a e (x + m) = rh_b a e (y + m) := lt_s hm (by rw [b1, b2, z])
      rcases ih (k + 1) (by omega) hm' with ⟨h1, h2⟩ | ⟨h1, h2⟩
      · exact Or.inl ⟨h1, fun post hp => br_f c ⟨i1, i2, br_t zX (nm_r (nI_1 k) (h2 post hp))⟩⟩
      · exact Or.inr ⟨h1, fun post hp => br_f c ⟨i1, i2, br_t zX (nm_r (nI_1 k) (h2 post hp))⟩⟩
    · have zX : ¬ a (nI x + nI k).toNatClampNeg = a (nI y + nI k).toNatClampNeg := by rw [w1, w2]; exact z
      by_cases g : a (y + k) ≤ a (x + k)
      · have gX : a (nI y + nI k).toNatClampNeg ≤ a (nI x + nI k).toNatClampNeg := by rw [w1, w2]; exact g
        refine Or.inr ⟨⟨k, fun m h => (hm m h).symm, ?_⟩, fun post hp => br_f c ⟨i1, i2, br_f zX ⟨i1, i2, br_t gX hp⟩⟩⟩
        rw [b1, b2]
        have g' := Int32.le_iff_toInt_le.mp g
        have z' : (a (x + k)).toInt ≠ (a (y + k)).toInt := fun e => z (Int32.toInt_inj.mp e)
        omega
      · have gX : ¬ a (nI y + nI k).toNatClampNeg ≤ a (nI x + nI k).toNatClampNeg := by rw [w1, w2]; exact g
        refine Or.inl ⟨⟨k, hm, ?_⟩, fun post hp => br_f c ⟨i1, i2, br_f zX ⟨i1, i2, br_f gX hp⟩⟩⟩
        rw [b1, b2]
        rw [Int32.le_iff_toInt_le] at g
        omega
theorem rh_sY (L : Int32) (a : Nat → Int32) (e x y : Nat) (hxy : y < x) (he : e ≤ 32) (hx : x < e) : ∀ d k : Nat, x + k + d = e → (∀ m : Nat, m < k → rh_b a e (x + m) = rh_b a e (y + m)) → (rh_lt a e x y ∧ ∀ post : Int32 → Prop, post 1 → wY_smaller_3 post (nI x) (nI y) (nI e) L a (d + 1) (nI k)) ∨ (rh_lt a e y x ∧ ∀ post : Int32 → Prop, post 0 → wY_smaller_3 post (nI x) (nI y) (nI e) L a (d + 1) (nI k)) := by
  intro d
  induction d with
  | zero =>
    intro k hk hm
    have c0 : ¬ (32 : Int32) ≤ nI k := by rw [← ra_32]; exact nI_ge (by omega) (by omega)
    have c : nI e ≤ nI x + nI k := by rw [nI_add]; exact nI_le (by omega) (by omega)
    have c2 : ¬ nI x ≤ nI y := nI_ge (by omega) (by omega)
    exact Or.inl ⟨⟨k, hm, rh_low (by omega) (by omega)⟩, fun post hp => br_f c0 (br_t c (br_f c2 hp))⟩
  | succ d ih =>
    intro k hk hm
    have c0 : ¬ (32 : Int32) ≤ nI k := by rw [← ra_32]; exact nI_ge (by omega) (by omega)
    have c : ¬ nI e ≤ nI x + nI k := by rw [nI_add]; exact nI_ge (by omega) (by omega)
    have c2 : nI y + nI k < nI e := by rw [nI_add]; exact nI_lt (by omega) (by omega)
    have i1 : vp_in (nI x + nI k) 32 := pk_in (x + k) 32 (by omega) (nI_add x k)
    have i2 : vp_in (nI y + nI k) 32 := pk_in (y + k) 32 (by omega) (nI_add y k)
    have w1 : (nI x + nI k).toNatClampNeg = x + k := pk_cl (x + k) (nI_add x k)
    have w2 : (nI y + nI k).toNatClampNeg = y + k := pk_cl (y + k) (nI_add y k)
    have b1 : rh_b a e (x + k) = (a (x + k)).toInt := rh_in (by omega)
    have b2 : rh_b a e (y + k) = (a (y + k)).toInt := rh_in (by omega)
    by_cases z : a (x + k) = a (y + k)
    · have zX : a (nI x + nI k).toNatClampNeg = a (nI y + nI k).toNatClampNeg := by rw [w1, w2]; exact z
      have hm' : ∀ m : Nat, m < k + 1 → rh_b a e (x + m) = rh_b a e (y + m) := lt_s hm (by rw [b1, b2, z])
      rcases ih (k + 1) (by omega) hm' with ⟨h1, h2⟩ | ⟨h1, h2⟩
      · exact Or.inl ⟨h1, fun post hp => br_f c0 (br_f c (br_t c2 ⟨i1, i2, br_t zX (nm_r (nI_1 k) (h2 post hp))⟩))⟩
      · exact Or.inr ⟨h1, fun post hp => br_f c0 (br_f c (br_t c2 ⟨i1, i2, br_t zX (nm_r (nI_1 k) (h2 post hp))⟩))⟩
    · have zX : ¬ a (nI x + nI k).toNatClampNeg = a (nI y + nI k).toNatClampNeg := by rw [w1, w2]; exact z
      by_cases g : a (y + k) ≤ a (x + k)
      · have gX : a (nI y + nI k).toNatClampNeg ≤ a (nI x + nI k).toNatClampNeg := by rw [w1, w2]; exact g
        refine Or.inr ⟨⟨k, fun m h => (hm m h).symm, ?_⟩, fun post hp => br_f c0 (br_f c (br_t c2 ⟨i1, i2, br_f zX ⟨i1, i2, br_t gX hp⟩⟩))⟩
        rw [b1, b2]
        have g' := Int32.le_iff_toInt_le.mp g
        have z' : (a (x + k)).toInt ≠ (a (y + k)).toInt := fun e => z (Int32.toInt_inj.mp e)
        omega
      · have gX : ¬ a (nI y + nI k).toNatClampNeg ≤ a (nI x + nI k).toNatClampNeg := by rw [w1, w2]; exact g
        refine Or.inl ⟨⟨k, hm, ?_⟩, fun post hp => br_f c0 (br_f c (br_t c2 ⟨i1, i2, br_f zX ⟨i1, i2, br_f gX hp⟩⟩))⟩
        rw [b1, b2]
        rw [Int32.le_iff_toInt_le] at g
        omega
theorem rh_neg (x : Int32) : x + (-1) = x - 1 := by grind
theorem rh_X (L : Int32) (a : Nat → Int32) (e : Nat) (he : e ≤ 32) : ∀ i b : Nat, rh_L a e i e b → ∃ m : Nat, rh_L a e 0 e m ∧ ∀ post : Int32 → Prop, post (nI m) → wX_smallestEndOf_8 post (nI e) L a (i + 1) (nI b) (nI i - 1) := by
  intro i
  induction i with
  | zero =>
    intro b hb
    exact ⟨b, hb, fun post hp => br_t (by decide) hp⟩
  | succ i ih =>
    intro b hb
    obtain ⟨h1, h2, h3⟩ := hb
    have hz : ¬ nI i < 0 := nI_pos (by omega)
    rcases rh_sX L a e i b (by omega) he h2 (e - b) 0 (by omega) (fun m hm => absurd hm (by omega)) with ⟨hl, hw⟩ | ⟨hl, hw⟩
    · obtain ⟨m, hm, hX⟩ := ih i ⟨by omega, by omega, fun x x1 x2 x3 => by
        by_cases q : x = b
        · rw [q]; exact hl
        · exact rh_trans hl (h3 x (by omega) x2 q)⟩
      refine ⟨m, hm, fun post hp => ?_⟩
      rw [nI_pred]
      exact br_f hz ⟨_, hw _ (br_f (by decide) (nm_r (rh_neg (nI i)) (hX post hp)))⟩
    · obtain ⟨m, hm, hX⟩ := ih b ⟨by omega, by omega, fun x x1 x2 x3 => by
        by_cases q : x = i
        · rw [q]; exact hl
        · exact h3 x (by omega) x2 x3⟩
      refine ⟨m, hm, fun post hp => ?_⟩
      rw [nI_pred]
      exact br_f hz ⟨_, hw _ (br_t rfl (nm_r (rh_neg (nI i)) (hX post hp)))⟩
theorem rh_Y (L : Int32) (a : Nat → Int32) (e : Nat) (he : e ≤ 32) : ∀ d i : Nat, i + d = e → ∀ b : Nat, rh_L a e 0 i b → ∃ m : Nat, rh_L a e 0 e m ∧ ∀ post : Int32 → Prop, post (nI m) → wY_smallest_4 post (nI e) L a (d + 1) (nI b) (nI i) := by
  intro d
  induction d with
  | zero =>
    intro i hi b hb
    have ei : i = e := by omega
    subst ei
    exact ⟨b, hb, fun post hp => br_t (nI_le (by omega) (by omega)) hp⟩
  | succ d ih =>
    intro i hi b hb
    obtain ⟨h1, h2, h3⟩ := hb
    have hc : ¬ nI e ≤ nI i := nI_ge (by omega) (by omega)
    rcases rh_sY L a e i b (by omega) he (by omega) (e - i) 0 (by omega) (fun m hm => absurd hm (by omega)) with ⟨hl, hw⟩ | ⟨hl, hw⟩
    · obtain ⟨m, hm, hY⟩ := ih (i + 1) (by omega) i ⟨by omega, by omega, fun x x1 x2 x3 => by
        by_cases q : x = b
        · rw [q]; exact hl
        · exact rh_trans hl (h3 x (by omega) (by omega) q)⟩
      exact ⟨m, hm, fun post hp => br_f hc ⟨_, hw _ (br_f (by decide) (nm_r (nI_1 i) (hY post hp)))⟩⟩
    · obtain ⟨m, hm, hY⟩ := ih (i + 1) (by omega) b ⟨by omega, by omega, fun x x1 x2 x3 => by
        by_cases q : x = i
        · rw [q]; exact hl
        · exact h3 x (by omega) (by omega) x3⟩
      exact ⟨m, hm, fun post hp => br_f hc ⟨_, hw _ (br_t rfl (nm_r (nI_1 i) (hY post hp)))⟩⟩
theorem rh_both (L : Int32) (a : Nat → Int32) (e : Nat) (h1 : 1 ≤ e) (he : e ≤ 32) : ∃ m : Nat, m < e ∧ (∀ post : Int32 → Prop, post (nI m) → wpX_smallestEndOf post (L, a) (nI e)) ∧ (∀ post : Int32 → Prop, post (nI m) → wpY_smallest post (L, a) (nI e)) := by
  obtain ⟨m, hm, hX⟩ := rh_X L a e he (e - 1) (e - 1) ⟨by omega, by omega, fun x x1 x2 x3 => absurd x1 (by omega)⟩
  obtain ⟨m', hm', hY⟩ := rh_Y L a e he (e - 1) 1 (by omega) 0 ⟨by omega, by omega, fun x x1 x2 x3 => absurd x2 (by omega)⟩
  cases rh_uni hm hm'
  obtain ⟨f, rfl⟩ : ∃ f, e = f + 1 := ⟨e - 1, by omega⟩
  have e2 : nI (f + 1) - 2 = nI f - 1 := by
    rw [← nI_1]
    grind
  exact ⟨m, hm.2.1, fun post hp => nm_r (nI_pred f) (nm_r e2 ⟨_, hX post hp⟩), fun post hp => ⟨_, hY post hp⟩⟩
theorem i_vc_smallestEnd {k : Nat} {u : SX} {v : SY} (I : i_Rel k u v) (hk : k + 3 ≤ 1536) : wpX_smallestEnd (fun r => wpY_smallestEnd (fun r' => r' = r ∧ i_Rel (k + 3) u v) v) u := by
  obtain ⟨n, a, hn, rfl, rfl⟩ := I
  unfold wpX_smallestEnd wpY_smallestEnd
  dsimp only
  cases n with
  | zero => exact br_t rfl (br_t rfl ⟨rfl, 0, a, hn, rfl, rfl⟩)
  | succ n =>
    have h0 : ¬ nI (n + 1) = 0 := nI_ne0 (by omega) (by omega)
    obtain ⟨m, hm, hX, hY⟩ := rh_both (nI (n + 1)) a (n + 1) (by omega) hn
    refine br_f h0 (hX _ ?_)
    refine br_f h0 (hY _ ?_)
    exact ⟨rfl, n + 1, a, hn, rfl, rfl⟩
theorem ri_idle (L : Int32) (a : Nat → Int32) : ∀ d k : Nat, k + d = 32 → ∀ (c : Int32) (post : Int32 → Prop), post c → wY_factors_9 post L a (d + 1) c (nI 0) (nI k) := by
  intro d
  induction d with
  | zero =>
    intro k hk c post hp
    have c0 : (32 : Int32) ≤ nI k := by rw [← ra_32]; exact nI_le (by omega) (by omega)
    exact br_t c0 hp
  | succ d ih =>
    intro k hk c post hp
    have c0 : ¬ (32 : Int32) ≤ nI k := by rw [← ra_32]; exact nI_ge (by omega) (by omega)
    exact br_f c0 (br_t (by decide) (nm_r (nI_1 k) (ih (k + 1) (by omega) c post hp)))
theorem ri_loop (L : Int32) (a : Nat → Int32) : ∀ d k : Nat, k + d = 32 → ∀ (e : Nat) (c : Int32), e ≤ 32 → ∃ r : Int32, (∀ post : Int32 → Prop, post r → wX_factors_9 post L a (d + 1) c (nI e) (nI k)) ∧ (∀ post : Int32 → Prop, post r → wY_factors_9 post L a (d + 1) c (nI e) (nI k)) := by
  intro d
  induction d with
  | zero =>
    intro k hk e c he
    have c0 : (32 : Int32) ≤ nI k := by rw [← ra_32]; exact nI_le (by omega) (by omega)
    exact ⟨c, fun post hp => br_t c0 hp, fun post hp => br_t c0 hp⟩
  | succ d ih =>
    intro k hk e c he
    have c0 : ¬ (32 : Int32) ≤ nI k := by rw [← ra_32]; exact nI_ge (by omega) (by omega)
    cases e with
    | zero => exact ⟨c, fun post hp => br_f c0 (br_t (by decide) hp), fun post hp => ri_idle L a (d + 1) k hk c post hp⟩
    | succ e =>
      have h0 : ¬ nI (e + 1) ≤ 0 := nI_nle (by omega) (by omega)
      obtain ⟨m, hm, hX, hY⟩ := rh_both L a (e + 1) (by omega) he
      obtain ⟨r, rX, rY⟩ := ih (k + 1) (by omega) m (c + 1) (by omega)
      exact ⟨r, fun post hp => br_f c0 (br_f h0 (hX _ (nm_e (nm_r (nI_1 k) (rX post hp))))), fun post hp => br_f c0 (br_f h0 (hY _ (nm_e (nm_r (nI_1 k) (rY post hp)))))⟩
theorem i_vc_factors {k : Nat} {u : SX} {v : SY} (I : i_Rel k u v) (hk : k + 3 ≤ 1536) : wpX_factors (fun r => wpY_factors (fun r' => r' = r ∧ i_Rel (k + 3) u v) v) u := by
  obtain ⟨n, a, hn, rfl, rfl⟩ := I
  unfold wpX_factors wpY_factors
  dsimp only
  obtain ⟨r, rX, rY⟩ := ri_loop (nI n) a 32 0 (by omega) n 0 hn
  exact ⟨_, rX _ ⟨_, rY _ ⟨rfl, n, a, hn, rfl, rfl⟩⟩⟩

theorem rc_hp (L : Int32) (a : Nat → Int32) (p j : Nat) (hj : j ≤ 32) : ∀ d i : Nat, i + p + d = j → ((∀ post : Int32 → Prop, post 1 → wX_hasPeriod_5 post (nI j) (nI p) L a (d + 1) (nI (i + p))) ∧ (∀ post : Int32 → Prop, post 1 → wY_hasPeriod_3 post (nI j) (nI p) L a (d + 1) (nI i))) ∨ ((∀ post : Int32 → Prop, post 0 → wX_hasPeriod_5 post (nI j) (nI p) L a (d + 1) (nI (i + p))) ∧ (∀ post : Int32 → Prop, post 0 → wY_hasPeriod_3 post (nI j) (nI p) L a (d + 1) (nI i))) := by
  intro d
  induction d with
  | zero =>
    intro i h
    refine Or.inl ⟨fun post hp => br_t (nI_le (by omega) (by omega)) hp, fun post hp => br_t ?_ hp⟩
    rw [nI_add]
    exact nI_le (by omega) (by omega)
  | succ d ih =>
    intro i h
    have es : nI (i + p) - nI p = nI i := by rw [pk_sub (by omega), Nat.add_sub_cancel]
    have cX : ¬ nI j ≤ nI (i + p) := nI_ge (by omega) (by omega)
    have cY : ¬ nI j ≤ nI i + nI p := by rw [nI_add]; exact cX
    have i1 : vp_in (nI (i + p)) 32 := pk_in (i + p) 32 (by omega)
    have i2 : vp_in (nI (i + p) - nI p) 32 := pk_in i 32 (by omega) es
    have i3 : vp_in (nI i) 32 := pk_in i 32 (by omega)
    have i4 : vp_in (nI i + nI p) 32 := pk_in (i + p) 32 (by omega) (nI_add i p)
    have w1 : (nI (i + p)).toNatClampNeg = i + p := pk_cl (i + p)
    have w2 : (nI (i + p) - nI p).toNatClampNeg = i := pk_cl i es
    have w3 : (nI i).toNatClampNeg = i := pk_cl i
    have w4 : (nI i + nI p).toNatClampNeg = i + p := pk_cl (i + p) (nI_add i p)
    have eN : i + 1 + p = i + p + 1 := by omega
    by_cases z : a i = a (i + p)
    · have zX : a (nI (i + p)).toNatClampNeg = a (nI (i + p) - nI p).toNatClampNeg := by rw [w1, w2]; exact z.symm
      have zY : a (nI i).toNatClampNeg = a (nI i + nI p).toNatClampNeg := by rw [w3, w4]; exact z
      have H := ih (i + 1) (by omega)
      rw [eN] at H
      rcases H with ⟨hX, hY⟩ | ⟨hX, hY⟩
      · exact Or.inl ⟨fun post hp => br_f cX ⟨i1, i2, br_t zX (nm_r (nI_1 (i + p)) (hX post hp))⟩, fun post hp => br_f cY ⟨i3, i4, br_t zY (nm_r (nI_1 i) (hY post hp))⟩⟩
      · exact Or.inr ⟨fun post hp => br_f cX ⟨i1, i2, br_t zX (nm_r (nI_1 (i + p)) (hX post hp))⟩, fun post hp => br_f cY ⟨i3, i4, br_t zY (nm_r (nI_1 i) (hY post hp))⟩⟩
    · have zX : ¬ a (nI (i + p)).toNatClampNeg = a (nI (i + p) - nI p).toNatClampNeg := by rw [w1, w2]; exact fun e => z e.symm
      have zY : ¬ a (nI i).toNatClampNeg = a (nI i + nI p).toNatClampNeg := by rw [w3, w4]; exact z
      exact Or.inr ⟨fun post hp => br_f cX ⟨i1, i2, br_f zX hp⟩, fun post hp => br_f cY ⟨i3, i4, br_f zY hp⟩⟩
theorem rc_has (L : Int32) (a : Nat → Int32) (i j p : Nat) (h : i + p ≤ j) (hj : j ≤ 32) : ((∀ post : Int32 → Prop, post 1 → wpX_hasPeriod post (L, a) (nI i) (nI j) (nI p)) ∧ (∀ post : Int32 → Prop, post 1 → wpY_hasPeriod post (L, a) (nI i) (nI j) (nI p))) ∨ ((∀ post : Int32 → Prop, post 0 → wpX_hasPeriod post (L, a) (nI i) (nI j) (nI p)) ∧ (∀ post : Int32 → Prop, post 0 → wpY_hasPeriod post (L, a) (nI i) (nI j) (nI p))) := by
  rcases rc_hp L a p j hj (j - (i + p)) i (by omega) with ⟨hX, hY⟩ | ⟨hX, hY⟩
  · exact Or.inl ⟨fun post hp => nm_r (nI_add i p) ⟨_, hX post hp⟩, fun post hp => ⟨_, hY post hp⟩⟩
  · exact Or.inr ⟨fun post hp => nm_r (nI_add i p) ⟨_, hX post hp⟩, fun post hp => ⟨_, hY post hp⟩⟩
theorem rc_lp (L : Int32) (a : Nat → Int32) (i j : Nat) (hi : i ≤ j) (hj : j ≤ 32) : ∀ d p : Nat, j - i ≤ p + d → p ≤ 64 → ∃ r : Int32, (∀ post : Int32 → Prop, post r → wX_leastPeriod_2 post (nI i) (nI j) L a (d + 1) (nI p)) ∧ (∀ post : Int32 → Prop, post r → wY_leastPeriod_2 post (nI i) (nI j) L a (d + 1) (nI p)) := by
  have es : nI j - nI i = nI (j - i) := pk_sub hi
  intro d
  induction d with
  | zero =>
    intro p h hp
    have c : nI j - nI i ≤ nI p := by rw [es]; exact nI_le (by omega) (by omega)
    exact ⟨nI j - nI i, fun post q => br_t c q, fun post q => br_t c q⟩
  | succ d ih =>
    intro p h hp
    by_cases hc : j - i ≤ p
    · have c : nI j - nI i ≤ nI p := by rw [es]; exact nI_le (by omega) (by omega)
      exact ⟨nI j - nI i, fun post q => br_t c q, fun post q => br_t c q⟩
    · have c : ¬ nI j - nI i ≤ nI p := by rw [es]; exact nI_ge (by omega) (by omega)
      rcases rc_has L a i j p (by omega) hj with ⟨hX, hY⟩ | ⟨hX, hY⟩
      · exact ⟨nI p, fun post q => br_f c (hX _ (br_f (by decide) q)), fun post q => br_f c (hY _ (br_f (by decide) q))⟩
      · obtain ⟨r, rX, rY⟩ := ih (p + 1) (by omega) (by omega)
        exact ⟨r, fun post q => br_f c (hX _ (br_t rfl (nm_r (nI_1 p) (rX post q)))), fun post q => br_f c (hY _ (br_t rfl (nm_r (nI_1 p) (rY post q))))⟩
theorem rc_least (L : Int32) (a : Nat → Int32) (i j : Nat) (hi : i ≤ j) (hj : j ≤ 32) : ∃ r : Int32, (∀ post : Int32 → Prop, post r → wpX_leastPeriod post (L, a) (nI i) (nI j)) ∧ (∀ post : Int32 → Prop, post r → wpY_leastPeriod post (L, a) (nI i) (nI j)) := by
  obtain ⟨r, rX, rY⟩ := rc_lp L a i j hi hj 32 1 (by omega) (by omega)
  exact ⟨r, fun post q => ⟨_, rX post q⟩, fun post q => ⟨_, rY post q⟩⟩
theorem i_vc_wholePeriod {k : Nat} {u : SX} {v : SY} (I : i_Rel k u v) (hk : k + 3 ≤ 1536) : wpX_wholePeriod (fun r => wpY_wholePeriod (fun r' => r' = r ∧ i_Rel (k + 3) u v) v) u := by
  obtain ⟨n, a, hn, rfl, rfl⟩ := I
  unfold wpX_wholePeriod wpY_wholePeriod
  dsimp only
  obtain ⟨r, rX, rY⟩ := rc_least (nI n) a 0 n (by omega) hn
  cases n with
  | zero =>
    refine ⟨1, br_t ?_ (br_t rfl ⟨?_, 0, a, hn, rfl, rfl⟩)⟩
    · exact (by decide : (0 : Int32) - 0 ≤ 1)
    · exact (by decide : (0 : Int32) = 0 - 0)
  | succ n =>
    refine rX _ ?_
    refine br_f (nI_ne0 (by omega) (by omega)) ?_
    exact rY _ ⟨rfl, n + 1, a, hn, rfl, rfl⟩
def rd_T (i p n : Nat) (a : Nat → Int32) (post : Int32 → Prop) (x3 : Int32) : Prop := (((x3 - nI i) < (2 * nI p) → (post (-1))) ∧ (¬ (x3 - nI i) < (2 * nI p) → (wpY_leastPeriod (fun r_7 => (((r_7 = nI p → (post x3)) ∧ (¬ r_7 = nI p → (post (-1)))))) (nI n, a) (nI i) x3)))
theorem rd_idle (i p n j : Nat) (a : Nat → Int32) (hn : n ≤ 32) (post : Int32 → Prop) (hT : rd_T i p n a post (nI j)) : ∀ d k : Nat, k + d = n → j < k → wY_runEnd_46 post (nI i) (nI p) (nI n) a (d + 1) (nI j) (nI k) := by
  intro d
  induction d with
  | zero => intro k hk hj; exact br_t (nI_le (by omega) (by omega)) hT
  | succ d ih =>
    intro k hk hj
    have hne : ¬ nI j = nI k := by
      rw [nI_eq (by omega) (by omega)]
      omega
    exact br_f (nI_ge (by omega) (by omega)) (br_f hne (nm_r (nI_1 k) (ih (k + 1) (by omega) (by omega))))
theorem rd_reach (i p n : Nat) (a : Nat → Int32) (hn : n ≤ 32) : ∀ d k : Nat, k + d = n → p ≤ k → ∃ j : Nat, k ≤ j ∧ j ≤ n ∧ (∀ post : Int32 → Prop, post (nI j) → wX_reach_9 post (nI p) (nI n) a (d + 1) (nI k) (nI k)) ∧ (∀ post : Int32 → Prop, rd_T i p n a post (nI j) → wY_runEnd_46 post (nI i) (nI p) (nI n) a (d + 1) (nI k) (nI k)) := by
  intro d
  induction d with
  | zero =>
    intro k hk hp
    exact ⟨k, by omega, by omega, fun post h => br_t (nI_le (by omega) (by omega)) h, fun post h => br_t (nI_le (by omega) (by omega)) h⟩
  | succ d ih =>
    intro k hk hp
    have c : ¬ nI n ≤ nI k := nI_ge (by omega) (by omega)
    have es : nI k - nI p = nI (k - p) := pk_sub hp
    have i1 : vp_in (nI k) 32 := pk_in k 32 (by omega)
    have i2 : vp_in (nI k - nI p) 32 := pk_in (k - p) 32 (by omega) es
    by_cases z : a (nI k).toNatClampNeg = a (nI k - nI p).toNatClampNeg
    · obtain ⟨j, h1, h2, hX, hY⟩ := ih (k + 1) (by omega) (by omega)
      exact ⟨j, by omega, h2, fun post h => br_f c ⟨i1, i2, br_t z (nm_r (nI_1 k) (nm_r (nI_1 k) (hX post h)))⟩, fun post h => br_f c (br_t rfl ⟨i1, i2, br_t z (nm_r (nI_1 k) (nm_r (nI_1 k) (hY post h)))⟩)⟩
    · exact ⟨k, by omega, by omega, fun post h => br_f c ⟨i1, i2, br_f z h⟩, fun post h => br_f c (br_t rfl ⟨i1, i2, br_f z (nm_r (nI_1 k) (rd_idle i p n k a hn post h d (k + 1) (by omega) (by omega)))⟩)⟩
theorem rd_core (i p n : Nat) (a : Nat → Int32) (hn : n ≤ 32) (h : i + p ≤ n) : ((∀ post : Int32 → Prop, post 0 → wX_isRun_27 post (nI i) (nI p) (nI n) a) ∧ (∀ post : Int32 → Prop, post (-1) → wY_runEnd_37 post (nI i) (nI p) (nI n) a)) ∨ (∃ j : Nat, i + 2 * p ≤ j ∧ j ≤ n ∧ (∀ post : Int32 → Prop, post 1 → wX_isRun_27 post (nI i) (nI p) (nI n) a) ∧ (∀ post : Int32 → Prop, post (nI j) → wpX_reach post (nI n, a) (nI i) (nI p)) ∧ (∀ post : Int32 → Prop, post (nI j) → wY_runEnd_37 post (nI i) (nI p) (nI n) a)) := by
  obtain ⟨j, h1, h2, hX, hY⟩ := rd_reach i p n a hn (n - (i + p)) (i + p) (by omega) (by omega)
  have hR : ∀ post : Int32 → Prop, post (nI j) → wpX_reach post (nI n, a) (nI i) (nI p) := fun post hp => nm_r (nI_add i p) (nm_r (nI_add i p) ⟨_, hX post hp⟩)
  have hE : ∀ post : Int32 → Prop, rd_T i p n a post (nI j) → wY_runEnd_37 post (nI i) (nI p) (nI n) a := fun post hp => nm_r (nI_add i p) (nm_r (nI_add i p) ⟨_, hY post hp⟩)
  have e1 : nI j - nI i = nI (j - i) := pk_sub (by omega)
  have e2 : (2 : Int32) * nI p = nI (2 * p) := by rw [← ra_2]; exact pk_mul 2 p
  by_cases hs : j - i < 2 * p
  · have c : nI j - nI i < 2 * nI p := by rw [e1, e2]; exact nI_lt hs (by omega)
    refine Or.inl ⟨fun post hp => ?_, fun post hp => hE post (br_t c hp)⟩
    unfold wX_isRun_27
    exact hR _ (br_t c hp)
  · have c : ¬ nI j - nI i < 2 * nI p := by rw [e1, e2]; exact nI_nlt (by omega) (by omega)
    obtain ⟨r, rX, rY⟩ := rc_least (nI n) a i j (by omega) (by omega)
    by_cases hr : r = nI p
    · refine Or.inr ⟨j, by omega, h2, fun post hp => ?_, hR, fun post hp => hE post (br_f c (rY _ (br_t hr hp)))⟩
      unfold wX_isRun_27
      exact hR _ (br_f c (rX _ (br_t hr hp)))
    · refine Or.inl ⟨fun post hp => ?_, fun post hp => hE post (br_f c (rY _ (br_f hr hp)))⟩
      unfold wX_isRun_27
      exact hR _ (br_f c (rX _ (br_f hr hp)))
theorem rd_run (i p n : Nat) (a : Nat → Int32) (hn : n ≤ 32) (h : i + p < n) : ((∀ post : Int32 → Prop, post 0 → wpX_isRun post (nI n, a) (nI i) (nI p)) ∧ (∀ post : Int32 → Prop, post (-1) → wpY_runEnd post (nI n, a) (nI i) (nI p))) ∨ (∃ j : Nat, i + 2 * p ≤ j ∧ j ≤ n ∧ (∀ post : Int32 → Prop, post 1 → wpX_isRun post (nI n, a) (nI i) (nI p)) ∧ (∀ post : Int32 → Prop, post (nI j) → wpX_reach post (nI n, a) (nI i) (nI p)) ∧ (∀ post : Int32 → Prop, post (nI j) → wpY_runEnd post (nI n, a) (nI i) (nI p))) := by
  have c : ¬ nI n ≤ nI i + nI p := by rw [nI_add]; exact nI_ge (by omega) (by omega)
  cases i with
  | zero =>
    have h0 : nI 0 ≤ 0 := by decide
    rcases rd_core 0 p n a hn (by omega) with ⟨hX, hY⟩ | ⟨j, j1, j2, hX, hR, hY⟩
    · exact Or.inl ⟨fun post hp => br_t h0 (hX post hp), fun post hp => br_f c (br_t h0 (hY post hp))⟩
    · exact Or.inr ⟨j, j1, j2, fun post hp => br_t h0 (hX post hp), hR, fun post hp => br_f c (br_t h0 (hY post hp))⟩
  | succ i =>
    have h0 : ¬ nI (i + 1) ≤ 0 := nI_nle (by omega) (by omega)
    have i1 : vp_in (nI (i + 1) - 1) 32 := pk_in i 32 (by omega) (nI_pred i)
    have i2 : vp_in ((nI (i + 1) - 1) + nI p) 32 := pk_in (i + p) 32 (by omega) (by rw [nI_pred, nI_add])
    by_cases z : a (nI (i + 1) - 1).toNatClampNeg = a ((nI (i + 1) - 1) + nI p).toNatClampNeg
    · exact Or.inl ⟨fun post hp => br_f h0 ⟨i1, i2, br_t z hp⟩, fun post hp => br_f c (br_f h0 ⟨i1, i2, br_t z hp⟩)⟩
    · rcases rd_core (i + 1) p n a hn (by omega) with ⟨hX, hY⟩ | ⟨j, j1, j2, hX, hR, hY⟩
      · exact Or.inl ⟨fun post hp => br_f h0 ⟨i1, i2, br_f z (hX post hp)⟩, fun post hp => br_f c (br_f h0 ⟨i1, i2, br_f z (hY post hp)⟩)⟩
      · exact Or.inr ⟨j, j1, j2, fun post hp => br_f h0 ⟨i1, i2, br_f z (hX post hp)⟩, hR, fun post hp => br_f c (br_f h0 ⟨i1, i2, br_f z (hY post hp)⟩)⟩
theorem rd_none (i p n : Nat) (a : Nat → Int32) (hn : n ≤ 32) (hi : i < n) (hp : p ≤ 16) (h : n < i + 2 * p) : ∀ post : Int32 → Prop, post (-1) → wpY_runEnd post (nI n, a) (nI i) (nI p) := by
  intro post q
  by_cases hc : n ≤ i + p
  · have c : nI n ≤ nI i + nI p := by rw [nI_add]; exact nI_le (by omega) (by omega)
    exact br_t c q
  · rcases rd_run i p n a hn (by omega) with ⟨_, hY⟩ | ⟨j, j1, j2, _⟩
    · exact hY post q
    · exact absurd j1 (by omega)

/-- a run from i to j with the period q, as both searches give it -/
def rg_F (n : Nat) (a : Nat → Int32) (i q j : Nat) : Prop := 1 ≤ q ∧ i + 2 * q ≤ j ∧ j ≤ n ∧ ∀ post : Int32 → Prop, post (nI j) → wpX_reach post (nI n, a) (nI i) (nI q)
def rg_x (i q : Nat) : Nat := i * 64 + q
def rg_y (i q j : Nat) : Nat := i * 1024 + q * 32 + j - 1
theorem rg_ex (i q : Nat) : nI i * 64 + nI q = nI (rg_x i q) := by
  unfold rg_x
  rw [← ra_64, pk_mul, nI_add]
theorem rg_ey (i q j : Nat) (h : 1 ≤ j) : nI i * 1024 + nI q * 32 + nI j - 1 = nI (rg_y i q j) := by
  unfold rg_y
  rw [← ra_1024, ← ra_32, pk_mul, pk_mul, nI_add, nI_add, ← ra_1]
  exact pk_sub (by omega)
theorem rg_tail (x1 : Int32) (i n : Nat) (a : Nat → Int32) (hn : n ≤ 32) (hi : i < n) : ∀ d p : Nat, p + d = 17 → n < i + 2 * p → ∀ (post : Int32 → Prop) (J : Int32 → Int32 → Prop) (c : Int32), J c (nI (i + 1)) → wY_run_15 post J x1 (nI i) (nI n) a (d + 1) c (nI p) := by
  intro d
  induction d with
  | zero => intro p hp hx post J c h; exact br_t (re_gt (by omega)) (nm_r (nI_1 i) h)
  | succ d ih =>
    intro p hp hx post J c h
    exact br_f (re_ngt (by omega)) (rd_none i p n a hn hi (by omega) hx _ (br_t re_m1 (nm_r (nI_1 p) (ih (p + 1) (by omega) (by omega) post J c h))))
theorem rg_in (x1 : Int32) (i n : Nat) (a : Nat → Int32) (hn : n ≤ 32) (hi : i < n) : ∀ d p : Nat, p + d = 17 → 1 ≤ p → ∀ c : Int32, (∃ c' : Int32, (∀ (post : Int32 → Prop) (J : Int32 → Int32 → Prop), J c' (nI (i + 1)) → ∃ f : Nat, wX_findRun_15 post J x1 (nI i) (nI n) a f c (nI p)) ∧ (∀ (post : Int32 → Prop) (J : Int32 → Int32 → Prop), J c' (nI (i + 1)) → wY_run_15 post J x1 (nI i) (nI n) a (d + 1) c (nI p))) ∨ (∃ q j : Nat, rg_F n a i q j ∧ (∀ (post : Int32 → Prop) (J : Int32 → Int32 → Prop), post (nI (rg_x i q)) → ∃ f : Nat, wX_findRun_15 post J x1 (nI i) (nI n) a f c (nI p)) ∧ (∀ (post : Int32 → Prop) (J : Int32 → Int32 → Prop), post (nI (rg_y i q j)) → wY_run_15 post J x1 (nI i) (nI n) a (d + 1) c (nI p))) := by
  intro d
  induction d with
  | zero =>
    intro p hp h1 c
    have cX : nI n < nI i + 2 * nI p := by rw [re_e]; exact nI_lt (by omega) (by omega)
    exact Or.inl ⟨c, fun post J h => ⟨1, br_t cX (nm_r (nI_1 i) h)⟩, fun post J h => rg_tail x1 i n a hn hi 0 p hp (by omega) post J c h⟩
  | succ d ih =>
    intro p hp h1 c
    by_cases hx : n < i + 2 * p
    · have cX : nI n < nI i + 2 * nI p := by rw [re_e]; exact nI_lt (by omega) (by omega)
      exact Or.inl ⟨c, fun post J h => ⟨1, br_t cX (nm_r (nI_1 i) h)⟩, fun post J h => rg_tail x1 i n a hn hi (d + 1) p hp hx post J c h⟩
    · have cX : ¬ nI n < nI i + 2 * nI p := by rw [re_e]; exact nI_nlt (by omega) (by omega)
      have cY : ¬ (16 : Int32) < nI p := re_ngt (by omega)
      rcases rd_run i p n a hn (by omega) with ⟨hX, hY⟩ | ⟨j, j1, j2, hX, hR, hY⟩
      · have sX : ∀ (post : Int32 → Prop) (J : Int32 → Int32 → Prop), (∃ f : Nat, wX_findRun_15 post J x1 (nI i) (nI n) a f c (nI (p + 1))) → ∃ f : Nat, wX_findRun_15 post J x1 (nI i) (nI n) a f c (nI p) := fun post J ⟨f, hf⟩ => ⟨f + 1, br_f cX (hX _ (br_t rfl (nm_r (nI_1 p) hf)))⟩
        have sY : ∀ (post : Int32 → Prop) (J : Int32 → Int32 → Prop), wY_run_15 post J x1 (nI i) (nI n) a (d + 1) c (nI (p + 1)) → wY_run_15 post J x1 (nI i) (nI n) a (d + 1 + 1) c (nI p) := fun post J hf => br_f cY (hY _ (br_t re_m1 (nm_r (nI_1 p) hf)))
        rcases ih (p + 1) (by omega) (by omega) c with ⟨c', rX, rY⟩ | ⟨q, j, hF, rX, rY⟩
        · exact Or.inl ⟨c', fun post J h => sX post J (rX post J h), fun post J h => sY post J (rY post J h)⟩
        · exact Or.inr ⟨q, j, hF, fun post J h => sX post J (rX post J h), fun post J h => sY post J (rY post J h)⟩
      · have hz : ¬ nI j < 0 := nI_pos (by omega)
        by_cases hc : c = x1
        · refine Or.inr ⟨p, j, ⟨h1, j1, j2, hR⟩, fun post J h => ⟨1, br_f cX (hX _ (br_f (by decide) (br_t hc ?_)))⟩, fun post J h => br_f cY (hY _ (br_f hz (br_t hc ?_)))⟩
          · rw [rg_ex]; exact h
          · rw [rg_ey i p j (by omega)]; exact h
        · have sX : ∀ (post : Int32 → Prop) (J : Int32 → Int32 → Prop), (∃ f : Nat, wX_findRun_15 post J x1 (nI i) (nI n) a f (c + 1) (nI (p + 1))) → ∃ f : Nat, wX_findRun_15 post J x1 (nI i) (nI n) a f c (nI p) := fun post J ⟨f, hf⟩ => ⟨f + 1, br_f cX (hX _ (br_f (by decide) (br_f hc (nm_e (nm_r (nI_1 p) hf)))))⟩
          have sY : ∀ (post : Int32 → Prop) (J : Int32 → Int32 → Prop), wY_run_15 post J x1 (nI i) (nI n) a (d + 1) (c + 1) (nI (p + 1)) → wY_run_15 post J x1 (nI i) (nI n) a (d + 1 + 1) c (nI p) := fun post J hf => br_f cY (hY _ (br_f hz (br_f hc (nm_e (nm_r (nI_1 p) hf)))))
          rcases ih (p + 1) (by omega) (by omega) (c + 1) with ⟨c', rX, rY⟩ | ⟨q, j, hF, rX, rY⟩
          · exact Or.inl ⟨c', fun post J h => sX post J (rX post J h), fun post J h => sY post J (rY post J h)⟩
          · exact Or.inr ⟨q, j, hF, fun post J h => sX post J (rX post J h), fun post J h => sY post J (rY post J h)⟩
theorem rg_out (x1 : Int32) (n : Nat) (a : Nat → Int32) (hn : n ≤ 32) : ∀ d i : Nat, i + d = n → ∀ c : Int32, ((∀ post : Int32 → Prop, post (-4) → wX_findRun_4 post x1 (nI n) a (d + 1) c (nI i)) ∧ (∀ post : Int32 → Prop, post (-1) → wY_run_4 post x1 (nI n) a (d + 1) c (nI i))) ∨ (∃ i' q j : Nat, rg_F n a i' q j ∧ (∀ post : Int32 → Prop, post (nI (rg_x i' q)) → wX_findRun_4 post x1 (nI n) a (d + 1) c (nI i)) ∧ (∀ post : Int32 → Prop, post (nI (rg_y i' q j)) → wY_run_4 post x1 (nI n) a (d + 1) c (nI i))) := by
  intro d
  induction d with
  | zero =>
    intro i hi c
    exact Or.inl ⟨fun post h => br_t (nI_le (by omega) (by omega)) h, fun post h => br_t (nI_le (by omega) (by omega)) h⟩
  | succ d ih =>
    intro i hi c
    have h : ¬ nI n ≤ nI i := nI_ge (by omega) (by omega)
    rcases rg_in x1 i n a hn (by omega) 16 1 (by omega) (by omega) c with ⟨c', hX, hY⟩ | ⟨q, j, hF, hX, hY⟩
    · rcases ih (i + 1) (by omega) c' with ⟨rX, rY⟩ | ⟨i', q, j, hF, rX, rY⟩
      · exact Or.inl ⟨fun post z => br_f h (hX post _ (rX post z)), fun post z => br_f h ⟨_, hY post _ (rY post z)⟩⟩
      · exact Or.inr ⟨i', q, j, hF, fun post z => br_f h (hX post _ (rX post z)), fun post z => br_f h ⟨_, hY post _ (rY post z)⟩⟩
    · exact Or.inr ⟨i, q, j, hF, fun post z => br_f h (hX post _ z), fun post z => br_f h ⟨_, hY post _ z⟩⟩
theorem rg_find (x1 : Int32) (n : Nat) (a : Nat → Int32) (hn : n ≤ 32) : ((∀ post : Int32 → Prop, post (-4) → wpX_findRun post (nI n, a) x1) ∧ (∀ post : Int32 → Prop, post (-1) → wpY_run post (nI n, a) x1)) ∨ (∃ i q j : Nat, rg_F n a i q j ∧ (∀ post : Int32 → Prop, post (nI (rg_x i q)) → wpX_findRun post (nI n, a) x1) ∧ (∀ post : Int32 → Prop, post (nI (rg_y i q j)) → wpY_run post (nI n, a) x1)) := by
  rcases rg_out x1 n a hn n 0 (by omega) 0 with ⟨hX, hY⟩ | ⟨i, q, j, hF, hX, hY⟩
  · exact Or.inl ⟨fun post z => ⟨_, hX post z⟩, fun post z => ⟨_, hY post z⟩⟩
  · exact Or.inr ⟨i, q, j, hF, fun post z => ⟨_, hX post z⟩, fun post z => ⟨_, hY post z⟩⟩
theorem rg_n4 {x : Nat} (h : x < 2 ^ 31) : ¬ nI x = -4 := by
  intro e
  have h1 := nI_pos h
  rw [e] at h1
  exact h1 (by decide)
theorem rg_m1 : ¬ (0 : Int32) ≤ -1 := by decide
theorem rg_64 : ¬ (64 : Int32) = 0 := by decide
theorem rg_32 : ¬ (32 : Int32) = 0 := by decide
theorem rg_1024 : ¬ (1024 : Int32) = 0 := by decide
theorem i_vc_begin {k : Nat} {u : SX} {v : SY} (I : i_Rel k u v) (hk : k + 3 ≤ 1536) (v1 : Int32) : wpX_begin (fun r => wpY_begin (fun r' => r' = r ∧ i_Rel (k + 3) u v) v v1) u v1 := by
  obtain ⟨n, a, hn, rfl, rfl⟩ := I
  unfold wpX_begin wpY_begin
  dsimp only
  rcases rg_find v1 n a hn with ⟨hX, hY⟩ | ⟨i, q, j, ⟨h1, h2, h3, hR⟩, hX, hY⟩
  · refine hX _ (br_t rfl ?_)
    exact hY _ (br_f rg_m1 ⟨rfl, n, a, hn, rfl, rfl⟩)
  · have bx : rg_x i q < 2 ^ 31 := by unfold rg_x; omega
    have bY : rg_y i q j < 2 ^ 31 := by unfold rg_y; omega
    have ex : nI (rg_x i q) / 64 = nI i := by
      rw [← ra_64, pk_div bx (by omega) (by omega)]
      exact congrArg nI (by unfold rg_x; omega)
    have ey : nI (rg_y i q j) / 1024 = nI i := by
      rw [← ra_1024, pk_div bY (by omega) (by omega)]
      exact congrArg nI (by unfold rg_y; omega)
    refine hX _ (br_f (rg_n4 bx) ⟨rg_64, ?_⟩)
    refine hY _ (br_t (nI_pos' bY) ⟨rg_1024, ?_⟩)
    exact ⟨ey.trans ex.symm, n, a, hn, rfl, rfl⟩
theorem i_vc_end {k : Nat} {u : SX} {v : SY} (I : i_Rel k u v) (hk : k + 3 ≤ 1536) (v1 : Int32) : wpX_end (fun r => wpY_end (fun r' => r' = r ∧ i_Rel (k + 3) u v) v v1) u v1 := by
  obtain ⟨n, a, hn, rfl, rfl⟩ := I
  unfold wpX_end wpY_end
  dsimp only
  rcases rg_find v1 n a hn with ⟨hX, hY⟩ | ⟨i, q, j, ⟨h1, h2, h3, hR⟩, hX, hY⟩
  · refine hX _ (br_t rfl ?_)
    exact hY _ (br_f rg_m1 ⟨rfl, n, a, hn, rfl, rfl⟩)
  · have bx : rg_x i q < 2 ^ 31 := by unfold rg_x; omega
    have bY : rg_y i q j < 2 ^ 31 := by unfold rg_y; omega
    have ex : nI (rg_x i q) / 64 = nI i := by
      rw [← ra_64, pk_div bx (by omega) (by omega)]
      exact congrArg nI (by unfold rg_x; omega)
    have ez : nI (rg_x i q) - nI (rg_x i q) / 64 * 64 = nI q := by
      rw [← ra_64, pk_rem bx (by omega) (by omega)]
      exact congrArg nI (by unfold rg_x; omega)
    have ey : nI (rg_y i q j) - nI (rg_y i q j) / 32 * 32 + 1 = nI j := by
      rw [← ra_32, pk_rem bY (by omega) (by omega), nI_1]
      exact congrArg nI (by unfold rg_y; omega)
    refine hX _ (br_f (rg_n4 bx) ⟨rg_64, rg_64, ?_⟩)
    rw [ez, ex]
    refine hR _ ?_
    refine hY _ (br_t (nI_pos' bY) ⟨rg_32, ?_⟩)
    exact ⟨ey, n, a, hn, rfl, rfl⟩
theorem i_vc_period {k : Nat} {u : SX} {v : SY} (I : i_Rel k u v) (hk : k + 3 ≤ 1536) (v1 : Int32) : wpX_period (fun r => wpY_period (fun r' => r' = r ∧ i_Rel (k + 3) u v) v v1) u v1 := by
  obtain ⟨n, a, hn, rfl, rfl⟩ := I
  unfold wpX_period wpY_period
  dsimp only
  rcases rg_find v1 n a hn with ⟨hX, hY⟩ | ⟨i, q, j, ⟨h1, h2, h3, hR⟩, hX, hY⟩
  · refine hX _ (br_t rfl ?_)
    exact hY _ (br_f rg_m1 ⟨rfl, n, a, hn, rfl, rfl⟩)
  · have bx : rg_x i q < 2 ^ 31 := by unfold rg_x; omega
    have bY : rg_y i q j < 2 ^ 31 := by unfold rg_y; omega
    have b2 : rg_y i q j / 32 < 2 ^ 31 := by omega
    have ez : nI (rg_x i q) - nI (rg_x i q) / 64 * 64 = nI q := by
      rw [← ra_64, pk_rem bx (by omega) (by omega)]
      exact congrArg nI (by unfold rg_x; omega)
    have ey : nI (rg_y i q j) / 32 - nI (rg_y i q j) / 32 / 32 * 32 = nI q := by
      have e3 : rg_y i q j / 32 = i * 32 + q := by unfold rg_y; omega
      rw [← ra_32, pk_div bY (by omega) (by omega), pk_rem b2 (by omega) (by omega), e3]
      exact congrArg nI (by omega)
    refine hX _ (br_f (rg_n4 bx) ⟨rg_64, ?_⟩)
    refine hY _ (br_t (nI_pos' bY) ⟨rg_32, rg_32, ?_⟩)
    exact ⟨ey.trans ez.symm, n, a, hn, rfl, rfl⟩

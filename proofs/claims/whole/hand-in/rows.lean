section
theorem pk_us {f : Nat → Int32} {k : Nat} {x : Int32} : upd f k x k = x := if_pos rfl
theorem pk_un {f : Nat → Int32} {k j : Nat} {x : Int32} (h : j ≠ k) : upd f k x j = f j := if_neg h
theorem pk_sub {a b : Nat} (h : b ≤ a) : nI a - nI b = nI (a - b) := by
  obtain ⟨c, rfl⟩ : ∃ c, a = c + b := ⟨a - b, by omega⟩
  rw [← nI_add, Int32.add_sub_cancel, Nat.add_sub_cancel]
theorem pk_m1 (n : Nat) : nI (n + 1) + (-1) = nI n := by
  rw [← nI_1, Int32.add_assoc, show (1 : Int32) + (-1) = 0 from rfl, Int32.add_zero]
theorem pk_mul (a b : Nat) : nI a * nI b = nI (a * b) := (Int32.ofNat_mul a b).symm
theorem pk_div {a d : Nat} (ha : a < 2 ^ 31) (h0 : 0 < d) (hd : d < 2 ^ 31) : nI a / nI d = nI (a / d) := by
  apply Int32.toInt_inj.mp
  rw [lg_idiv_nonneg (by rw [nI_toInt ha]; omega) (by rw [nI_toInt hd]; omega), nI_toInt ha, nI_toInt hd, nI_toInt (Nat.lt_of_le_of_lt (Nat.div_le_self a d) ha)]
  first | rfl | exact (Int.natCast_ediv _ _).symm
theorem pk_rem {a d : Nat} (ha : a < 2 ^ 31) (h0 : 0 < d) (hd : d < 2 ^ 31) : nI a - nI a / nI d * nI d = nI (a % d) := by
  rw [pk_div ha h0 hd, pk_mul, pk_sub (Nat.div_mul_le_self a d)]
  exact congrArg nI (by have := Nat.div_add_mod' a d; omega)
theorem pk_sub_toInt {a b : Nat} (ha : a < 2 ^ 30) (hb : b < 2 ^ 30) : (nI a - nI b).toInt = (a : Int) - b := by
  rw [Int32.toInt_sub, nI_toInt (by omega), nI_toInt (by omega)]
  exact Int.bmod_eq_of_le (by omega) (by omega)
theorem pk_sneg {a b : Nat} (hb : b < 2 ^ 30) (h : a < b) : nI a - nI b < 0 := by
  rw [Int32.lt_iff_toInt_lt, pk_sub_toInt (by omega) hb, show (0 : Int32).toInt = 0 from by decide]
  omega
theorem pk_ix (x : Int32) {n : Nat} (hn : n < 2 ^ 31) : x < 0 ∨ nI n ≤ x ∨ ∃ j : Nat, j < n ∧ x = nI j := by
  by_cases h : x < 0
  · exact Or.inl h
  · obtain ⟨j, hj, rfl⟩ := nI_of h
    by_cases h2 : j < n
    · exact Or.inr (Or.inr ⟨j, h2, rfl⟩)
    · exact Or.inr (Or.inl (nI_le (by omega) hj))
theorem pk_le {x y : Int32} {A B : Prop} (a b : Nat) (f : a ≤ b → A) (g : b < a → B) (hx : x = nI a := by rfl) (hy : y = nI b := by rfl) (ha : a < 2 ^ 31 := by omega) (hb : b < 2 ^ 31 := by omega) : (x ≤ y → A) ∧ (¬ x ≤ y → B) := by
  subst hx hy
  rw [nI_leI ha hb]
  exact ⟨f, fun z => g (by omega)⟩
theorem pk_lt {x y : Int32} {A B : Prop} (a b : Nat) (f : a < b → A) (g : b ≤ a → B) (hx : x = nI a := by rfl) (hy : y = nI b := by rfl) (ha : a < 2 ^ 31 := by omega) (hb : b < 2 ^ 31 := by omega) : (x < y → A) ∧ (¬ x < y → B) := by
  subst hx hy
  rw [nI_ltI ha hb]
  exact ⟨f, fun z => g (by omega)⟩
theorem pk_eq {x y : Int32} {A B : Prop} (a b : Nat) (f : a = b → A) (g : a ≠ b → B) (hx : x = nI a := by rfl) (hy : y = nI b := by rfl) (ha : a < 2 ^ 31 := by omega) (hb : b < 2 ^ 31 := by omega) : (x = y → A) ∧ (¬ x = y → B) := by
  subst hx hy
  rw [nI_eq ha hb]
  exact ⟨f, g⟩
theorem pk_in {x : Int32} (n N : Nat) (h : n < N) (hx : x = nI n := by rfl) (hN : N < 2 ^ 31 := by omega) : vp_in x N := by
  subst hx
  exact vp_in_nI h hN
theorem pk_cl {x : Int32} (n : Nat) (hx : x = nI n := by rfl) (h : n < 2 ^ 31 := by omega) : x.toNatClampNeg = n := by
  subst hx
  exact nI_clamp h
theorem ra_1024 : nI 1024 = 1024 := by decide +kernel
theorem ra_64 : nI 64 = 64 := by decide +kernel
theorem ra_32 : nI 32 = 32 := by decide +kernel
theorem ra_16 : nI 16 = 16 := by decide +kernel
theorem ra_2 : nI 2 = 2 := by decide +kernel
theorem ra_1 : nI 1 = 1 := by decide +kernel
theorem ra_i3 : (3 : Int32).toInt = 3 := by decide +kernel
theorem ra_i4 : (4 : Int32).toInt = 4 := by decide +kernel
theorem ra_43 {x : Int32} (h : (4 : Int32) ≤ x) : ¬ x ≤ 3 := by
  rw [Int32.le_iff_toInt_le, ra_i4] at h
  rw [Int32.le_iff_toInt_le, ra_i3]
  omega
theorem ra_34 {x : Int32} (h : ¬ (4 : Int32) ≤ x) : x ≤ 3 := by
  rw [Int32.le_iff_toInt_le, ra_i4] at h
  rw [Int32.le_iff_toInt_le, ra_i3]
  omega
/-- both texts have one length, at most 32, and the same letters -/
def i_Rel (_ : Nat) (u : SX) (v : SY) : Prop := ∃ n : Nat, ∃ a : Nat → Int32, n ≤ 32 ∧ u = (nI n, a) ∧ v = (nI n, a)
theorem i_up {k : Nat} {u : SX} {v : SY} (h : i_Rel k u v) : i_Rel (k + 3) u v := h
theorem i_vc0 : wpX_init (fun u => wpY_init (fun v => i_Rel 0 u v)) := ⟨0, fun _ => 0, by omega, rfl, rfl⟩
theorem i_vc_append {k : Nat} {u : SX} {v : SY} (I : i_Rel k u v) (hk : k + 3 ≤ 1536) (v1 : Int32) : wpX_append (fun r u' => wpY_append (fun r' v' => r' = r ∧ i_Rel (k + 3) u' v') v v1) u v1 := by
  obtain ⟨n, a, hn, rfl, rfl⟩ := I
  unfold wpX_append wpX_isLetter
  dsimp only
  by_cases h0 : v1 < 0
  · refine br_t h0 (br_t rfl ?_)
    exact br_t h0 ⟨rfl, n, a, hn, rfl, rfl⟩
  · by_cases h4 : (4 : Int32) ≤ v1
    · refine br_f h0 (br_t h4 (br_t rfl ?_))
      exact br_f h0 (br_f (ra_43 h4) ⟨rfl, n, a, hn, rfl, rfl⟩)
    · have h3 : v1 ≤ 3 := ra_34 h4
      refine br_f h0 (br_f h4 (br_f (by decide) ?_))
      refine pk_lt n 32 (fun hl => ⟨pk_in n 32 hl, nm_e (nm_r (nI_1 n) ?_)⟩) (fun hl => ?_)
      · have hne : ¬ nI n = 32 := by
          rw [← ra_32, nI_eq (by omega) (by omega)]
          omega
        exact br_f h0 (br_t h3 (br_f hne ⟨pk_in n 32 hl, nm_e (nm_r (nI_1 n) ⟨rfl, n + 1, _, by omega, rfl, rfl⟩)⟩))
      · have he : nI n = 32 := by
          rw [← ra_32, nI_eq (by omega) (by omega)]
          omega
        exact br_f h0 (br_t h3 (br_t he ⟨rfl, n, a, hn, rfl, rfl⟩))
theorem i_vc_set {k : Nat} {u : SX} {v : SY} (I : i_Rel k u v) (hk : k + 3 ≤ 1536) (v1 : Int32) (v2 : Int32) : wpX_set (fun r u' => wpY_set (fun r' v' => r' = r ∧ i_Rel (k + 3) u' v') v v1 v2) u v1 v2 := by
  obtain ⟨n, a, hn, rfl, rfl⟩ := I
  unfold wpX_set wpX_isLetter
  dsimp only
  by_cases p0 : v1 < 0
  · refine br_t p0 ?_
    exact br_t p0 ⟨rfl, n, a, hn, rfl, rfl⟩
  · by_cases p1 : v1 < nI n
    · have hi : vp_in v1 32 := by
        obtain ⟨j, hj, rfl⟩ := nI_of p0
        rw [nI_ltI hj (by omega)] at p1
        exact vp_in_nI (by omega) (by omega)
      by_cases h0 : v2 < 0
      · refine br_f p0 (br_t p1 (br_t h0 (br_t rfl ?_)))
        exact br_f p0 (br_t p1 (br_t h0 ⟨rfl, n, a, hn, rfl, rfl⟩))
      · by_cases h4 : (4 : Int32) ≤ v2
        · refine br_f p0 (br_t p1 (br_f h0 (br_t h4 (br_t rfl ?_))))
          exact br_f p0 (br_t p1 (br_f h0 (br_f (ra_43 h4) ⟨rfl, n, a, hn, rfl, rfl⟩)))
        · refine br_f p0 (br_t p1 (br_f h0 (br_f h4 (br_f (by decide) ⟨hi, nm_e ⟨hi, nm_e ?_⟩⟩))))
          exact br_f p0 (br_t p1 (br_f h0 (br_t (ra_34 h4) ⟨hi, nm_e ⟨hi, nm_e ⟨rfl, n, _, hn, rfl, rfl⟩⟩⟩)))
    · refine br_f p0 (br_f p1 ?_)
      exact br_f p0 (br_f p1 ⟨rfl, n, a, hn, rfl, rfl⟩)
theorem i_vc_drop {k : Nat} {u : SX} {v : SY} (I : i_Rel k u v) (hk : k + 3 ≤ 1536) : wpX_drop (fun r u' => wpY_drop (fun r' v' => r' = r ∧ i_Rel (k + 3) u' v') v) u := by
  obtain ⟨n, a, hn, rfl, rfl⟩ := I
  unfold wpX_drop
  dsimp only
  cases n with
  | zero =>
    refine br_t rfl ?_
    exact br_t rfl ⟨rfl, 0, a, hn, rfl, rfl⟩
  | succ n =>
    have h : ¬ nI (n + 1) = 0 := nI_ne0 (by omega) (by omega)
    refine br_f h (nm_r (nI_pred n) ?_)
    exact br_f h (nm_r (nI_pred n) ⟨rfl, n, a, by omega, rfl, rfl⟩)
theorem i_vc_clear {k : Nat} {u : SX} {v : SY} (I : i_Rel k u v) (hk : k + 3 ≤ 1536) : wpX_clear (fun u' => wpY_clear (fun v' => i_Rel (k + 3) u' v') v) u := by
  obtain ⟨n, a, hn, rfl, rfl⟩ := I
  exact ⟨0, a, by omega, rfl, rfl⟩
theorem rb_idle (m : Nat) (hm : m ≤ 32) (x2 : Int32) (a : Nat → Int32) : ∀ d j : Nat, j + d = m → ∀ post : Int32 → SY → Prop, post (nI 32) (nI 32, a) → wY_repeat_25 post (nI m) x2 (d + 1) (nI j) (nI 32) a := by
  intro d
  induction d with
  | zero => intro j hj post hp; exact br_t (nI_le (by omega) (by omega)) hp
  | succ d ih =>
    intro j hj post hp
    exact br_f (nI_ge (by omega) (by omega)) (br_t (nI_le (a := 32) (b := 32) (by omega) (by omega)) (nm_r (nI_1 j) (ih (j + 1) (by omega) post hp)))
theorem rb_loop (l m c : Nat) (hl : l ≤ 32) (hm : m ≤ l) (hc : (c = m ∧ l + m ≤ 32) ∨ (l + c = 32 ∧ c ≤ m)) : ∀ d j : Nat, j + d = c → ∀ a : Nat → Int32, ∃ a' : Nat → Int32, (∀ post : Int32 → SX → Prop, post (nI (l + c)) (nI (l + c), a') → wX_repeat_46 post (nI (l - m)) (nI c) (nI l) (d + 1) (nI j) a) ∧ (∀ post : Int32 → SY → Prop, post (nI (l + c)) (nI (l + c), a') → ∃ f : Nat, wY_repeat_25 post (nI m) (nI (l - m)) f (nI j) (nI (l + j)) a) := by
  intro d
  induction d with
  | zero =>
    intro j hj a
    have ej : j = c := by omega
    subst ej
    refine ⟨a, fun post hp => br_t (nI_le (by omega) (by omega)) (nm_r (nI_add l j) hp), fun post hp => ?_⟩
    rcases hc with ⟨h1, h2⟩ | ⟨h1, h2⟩
    · exact ⟨1, br_t (nI_le (by omega) (by omega)) hp⟩
    · rw [h1] at hp ⊢
      exact ⟨_, rb_idle m (by omega) _ a (m - j) j (by omega) post hp⟩
  | succ d ih =>
    intro j hj a
    obtain ⟨a', hX, hY⟩ := ih (j + 1) (by omega) (upd a (l + j) (a (l - m + j)))
    have e1 : upd a (nI l + nI j).toNatClampNeg (a (nI (l - m) + nI j).toNatClampNeg) = upd a (l + j) (a (l - m + j)) := by
      rw [nI_add, nI_add, nI_clamp (by omega), nI_clamp (by omega)]
    have e2 : upd a (nI (l + j)).toNatClampNeg (a (nI (l - m) + nI j).toNatClampNeg) = upd a (l + j) (a (l - m + j)) := by
      rw [nI_add, nI_clamp (by omega), nI_clamp (by omega)]
    refine ⟨a', fun post hp => br_f (nI_ge (by omega) (by omega)) ⟨pk_in (l - m + j) 32 (by omega) (nI_add _ _), pk_in (l + j) 32 (by omega) (nI_add _ _), nm_r e1 (nm_r (nI_1 j) (hX post hp))⟩, fun post hp => ?_⟩
    obtain ⟨f, hf⟩ := hY post hp
    have h32 : ¬ (32 : Int32) ≤ nI (l + j) := by rw [← ra_32]; exact nI_ge (by omega) (by omega)
    exact ⟨f + 1, br_f (nI_ge (by omega) (by omega)) (br_f h32 ⟨pk_in (l - m + j) 32 (by omega) (nI_add _ _), pk_in (l + j) 32 (by omega), nm_r e2 (nm_r (nI_1 (l + j)) (nm_r (nI_1 j) hf))⟩)⟩
theorem i_vc_repeat {k : Nat} {u : SX} {v : SY} (I : i_Rel k u v) (hk : k + 3 ≤ 1536) (v1 : Int32) : wpX_repeat (fun r u' => wpY_repeat (fun r' v' => r' = r ∧ i_Rel (k + 3) u' v') v v1) u v1 := by
  obtain ⟨n, a, hn, rfl, rfl⟩ := I
  unfold wpX_repeat
  dsimp only
  by_cases h1 : v1 < 1
  · refine br_t h1 ?_
    exact br_t h1 ⟨rfl, n, a, hn, rfl, rfl⟩
  · by_cases h2 : v1 ≤ nI n
    · have h0 : ¬ v1 < 0 := fun z => h1 (Int32.lt_trans z (by decide))
      obtain ⟨m, hm, rfl⟩ := nI_of h0
      have hmn : m ≤ n := (nI_leI hm (by omega)).mp h2
      have e32 : (32 : Int32) - nI n = nI (32 - n) := by rw [← ra_32]; exact pk_sub hn
      refine br_f h1 (br_t h2 (nm_r (pk_sub hmn) (nm_r e32 (pk_le (32 - n) m (fun hr => ?_) (fun hr => ?_)))))
      · obtain ⟨a', hX, hY⟩ := rb_loop n m (32 - n) hn hmn (by omega) (32 - n) 0 (by omega) a
        refine ⟨_, hX _ ?_⟩
        exact br_f h1 (br_t h2 (nm_r (pk_sub hmn) (hY _ ⟨rfl, _, a', by omega, rfl, rfl⟩)))
      · obtain ⟨a', hX, hY⟩ := rb_loop n m m hn hmn (by omega) m 0 (by omega) a
        refine ⟨_, hX _ ?_⟩
        exact br_f h1 (br_t h2 (nm_r (pk_sub hmn) (hY _ ⟨rfl, _, a', by omega, rfl, rfl⟩)))
    · refine br_f h1 (br_f h2 ?_)
      exact br_f h1 (br_f h2 ⟨rfl, n, a, hn, rfl, rfl⟩)
end
section
theorem rc_hp (L : Int32) (a : Nat → Int32) (p j : Nat) (hj : j ≤ 32) : ∀ d i : Nat, i + p + d = j → ((∀ post : Int32 → Prop, post 1 → wX_hasPeriod_5 post (nI j) (nI p) L a (d + 1) (nI (i + p))) ∧ (∀ post : Int32 → Prop, post 1 → wY_hasPeriod_3 post (nI j) (nI p) L a (d + 1) (nI i))) ∨ ((∀ post : Int32 → Prop, post 0 → wX_hasPeriod_5 post (nI j) (nI p) L a (d + 1) (nI (i + p))) ∧ (∀ post : Int32 → Prop, post 0 → wY_hasPeriod_3 post (nI j) (nI p) L a (d + 1) (nI i))) := by
  intro d
  induction d with
  | zero =>
    intro i h
    refine Or.inl ⟨fun post hp => br_t (nI_le (by omega) (by omega)) hp, fun post hp => br_t ?_ hp⟩
    rw [nI_add]
    exact nI_le (by omega) (by omega)
  | succ d ih =>
    intro i h
    have es : nI (i + p) - nI p = nI i := by rw [pk_sub (by omega), Nat.add_sub_cancel]
    have cX : ¬ nI j ≤ nI (i + p) := nI_ge (by omega) (by omega)
    have cY : ¬ nI j ≤ nI i + nI p := by rw [nI_add]; exact cX
    have i1 : vp_in (nI (i + p)) 32 := pk_in (i + p) 32 (by omega)
    have i2 : vp_in (nI (i + p) - nI p) 32 := pk_in i 32 (by omega) es
    have i3 : vp_in (nI i) 32 := pk_in i 32 (by omega)
    have i4 : vp_in (nI i + nI p) 32 := pk_in (i + p) 32 (by omega) (nI_add i p)
    have w1 : (nI (i + p)).toNatClampNeg = i + p := pk_cl (i + p)
    have w2 : (nI (i + p) - nI p).toNatClampNeg = i := pk_cl i es
    have w3 : (nI i).toNatClampNeg = i := pk_cl i
    have w4 : (nI i + nI p).toNatClampNeg = i + p := pk_cl (i + p) (nI_add i p)
    have eN : i + 1 + p = i + p + 1 := by omega
    by_cases z : a i = a (i + p)
    · have zX : a (nI (i + p)).toNatClampNeg = a (nI (i + p) - nI p).toNatClampNeg := by rw [w1, w2]; exact z.symm
      have zY : a (nI i).toNatClampNeg = a (nI i + nI p).toNatClampNeg := by rw [w3, w4]; exact z
      have H := ih (i + 1) (by omega)
      rw [eN] at H
      rcases H with ⟨hX, hY⟩ | ⟨hX, hY⟩
      · exact Or.inl ⟨fun post hp => br_f cX ⟨i1, i2, br_t zX (nm_r (nI_1 (i + p)) (hX post hp))⟩, fun post hp => br_f cY ⟨i3, i4, br_t zY (nm_r (nI_1 i) (hY post hp))⟩⟩
      · exact Or.inr ⟨fun post hp => br_f cX ⟨i1, i2, br_t zX (nm_r (nI_1 (i + p)) (hX post hp))⟩, fun post hp => br_f cY ⟨i3, i4, br_t zY (nm_r (nI_1 i) (hY post hp))⟩⟩
    · have zX : ¬ a (nI (i + p)).toNatClampNeg = a (nI (i + p) - nI p).toNatClampNeg := by rw [w1, w2]; exact fun e => z e.symm
      have zY : ¬ a (nI i).toNatClampNeg = a (nI i + nI p).toNatClampNeg := by rw [w3, w4]; exact z
      exact Or.inr ⟨fun post hp => br_f cX ⟨i1, i2, br_f zX hp⟩, fun post hp => br_f cY ⟨i3, i4, br_f zY hp⟩⟩
theorem rc_has (L : Int32) (a : Nat → Int32) (i j p : Nat) (h : i + p ≤ j) (hj : j ≤ 32) : ((∀ post : Int32 → Prop, post 1 → wpX_hasPeriod post (L, a) (nI i) (nI j) (nI p)) ∧ (∀ post : Int32 → Prop, post 1 → wpY_hasPeriod post (L, a) (nI i) (nI j) (nI p))) ∨ ((∀ post : Int32 → Prop, post 0 → wpX_hasPeriod post (L, a) (nI i) (nI j) (nI p)) ∧ (∀ post : Int32 → Prop, post 0 → wpY_hasPeriod post (L, a) (nI i) (nI j) (nI p))) := by
  rcases rc_hp L a p j hj (j - (i + p)) i (by omega) with ⟨hX, hY⟩ | ⟨hX, hY⟩
  · exact Or.inl ⟨fun post hp => nm_r (nI_add i p) ⟨_, hX post hp⟩, fun post hp => ⟨_, hY post hp⟩⟩
  · exact Or.inr ⟨fun post hp => nm_r (nI_add i p) ⟨_, hX post hp⟩, fun post hp => ⟨_, hY post hp⟩⟩
theorem rc_lp (L : Int32) (a : Nat → Int32) (i j : Nat) (hi : i ≤ j) (hj : j ≤ 32) : ∀ d p : Nat, j - i ≤ p + d → p ≤ 64 → ∃ r : Int32, (∀ post : Int32 → Prop, post r → wX_leastPeriod_2 post (nI i) (nI j) L a (d + 1) (nI p)) ∧ (∀ post : Int32 → Prop, post r → wY_leastPeriod_2 post (nI i) (nI j) L a (d + 1) (nI p)) := by
  have es : nI j - nI i = nI (j - i) := pk_sub hi
  intro d
  induction d with
  | zero =>
    intro p h hp
    have c : nI j - nI i ≤ nI p := by rw [es]; exact nI_le (by omega) (by omega)
    exact ⟨nI j - nI i, fun post q => br_t c q, fun post q => br_t c q⟩
  | succ d ih =>
    intro p h hp
    by_cases hc : j - i ≤ p
    · have c : nI j - nI i ≤ nI p := by rw [es]; exact nI_le (by omega) (by omega)
      exact ⟨nI j - nI i, fun post q => br_t c q, fun post q => br_t c q⟩
    · have c : ¬ nI j - nI i ≤ nI p := by rw [es]; exact nI_ge (by omega) (by omega)
      rcases rc_has L a i j p (by omega) hj with ⟨hX, hY⟩ | ⟨hX, hY⟩
      · exact ⟨nI p, fun post q => br_f c (hX _ (br_f (by decide) q)), fun post q => br_f c (hY _ (br_f (by decide) q))⟩
      · obtain ⟨r, rX, rY⟩ := ih (p + 1) (by omega) (by omega)
        exact ⟨r, fun post q => br_f c (hX _ (br_t rfl (nm_r (nI_1 p) (rX post q)))), fun post q => br_f c (hY _ (br_t rfl (nm_r (nI_1 p) (rY post q))))⟩
theorem rc_least (L : Int32) (a : Nat → Int32) (i j : Nat) (hi : i ≤ j) (hj : j ≤ 32) : ∃ r : Int32, (∀ post : Int32 → Prop, post r → wpX_leastPeriod post (L, a) (nI i) (nI j)) ∧ (∀ post : Int32 → Prop, post r → wpY_leastPeriod post (L, a) (nI i) (nI j)) := by
  obtain ⟨r, rX, rY⟩ := rc_lp L a i j hi hj 32 1 (by omega) (by omega)
  exact ⟨r, fun post q => ⟨_, rX post q⟩, fun post q => ⟨_, rY post q⟩⟩
theorem i_vc_wholePeriod {k : Nat} {u : SX} {v : SY} (I : i_Rel k u v) (hk : k + 3 ≤ 1536) : wpX_wholePeriod (fun r => wpY_wholePeriod (fun r' => r' = r ∧ i_Rel (k + 3) u v) v) u := by
  obtain ⟨n, a, hn, rfl, rfl⟩ := I
  unfold wpX_wholePeriod wpY_wholePeriod
  dsimp only
  obtain ⟨r, rX, rY⟩ := rc_least (nI n) a 0 n (by omega) hn
  cases n with
  | zero =>
    refine ⟨1, br_t ?_ (br_t rfl ⟨?_, 0, a, hn, rfl, rfl⟩)⟩
    · exact (by decide : (0 : Int32) - 0 ≤ 1)
    · exact (by decide : (0 : Int32) = 0 - 0)
  | succ n =>
    refine rX _ ?_
    refine br_f (nI_ne0 (by omega) (by omega)) ?_
    exact rY _ ⟨rfl, n + 1, a, hn, rfl, rfl⟩
def rd_T (i p n : Nat) (a : Nat → Int32) (post : Int32 → Prop) (x3 : Int32) : Prop := (((x3 - nI i) < (2 * nI p) → (post (-1))) ∧ (¬ (x3 - nI i) < (2 * nI p) → (wpY_leastPeriod (fun r_7 => (((r_7 = nI p → (post x3)) ∧ (¬ r_7 = nI p → (post (-1)))))) (nI n, a) (nI i) x3)))
theorem rd_idle (i p n j : Nat) (a : Nat → Int32) (hn : n ≤ 32) (post : Int32 → Prop) (hT : rd_T i p n a post (nI j)) : ∀ d k : Nat, k + d = n → j < k → wY_runEnd_46 post (nI i) (nI p) (nI n) a (d + 1) (nI j) (nI k) := by
  intro d
  induction d with
  | zero => intro k hk hj; exact br_t (nI_le (by omega) (by omega)) hT
  | succ d ih =>
    intro k hk hj
    have hne : ¬ nI j = nI k := by
      rw [nI_eq (by omega) (by omega)]
      omega
    exact br_f (nI_ge (by omega) (by omega)) (br_f hne (nm_r (nI_1 k) (ih (k + 1) (by omega) (by omega))))
theorem rd_reach (i p n : Nat) (a : Nat → Int32) (hn : n ≤ 32) : ∀ d k : Nat, k + d = n → p ≤ k → ∃ j : Nat, k ≤ j ∧ j ≤ n ∧ (∀ post : Int32 → Prop, post (nI j) → wX_reach_9 post (nI p) (nI n) a (d + 1) (nI k) (nI k)) ∧ (∀ post : Int32 → Prop, rd_T i p n a post (nI j) → wY_runEnd_46 post (nI i) (nI p) (nI n) a (d + 1) (nI k) (nI k)) := by
  intro d
  induction d with
  | zero =>
    intro k hk hp
    exact ⟨k, by omega, by omega, fun post h => br_t (nI_le (by omega) (by omega)) h, fun post h => br_t (nI_le (by omega) (by omega)) h⟩
  | succ d ih =>
    intro k hk hp
    have c : ¬ nI n ≤ nI k := nI_ge (by omega) (by omega)
    have es : nI k - nI p = nI (k - p) := pk_sub hp
    have i1 : vp_in (nI k) 32 := pk_in k 32 (by omega)
    have i2 : vp_in (nI k - nI p) 32 := pk_in (k - p) 32 (by omega) es
    by_cases z : a (nI k).toNatClampNeg = a (nI k - nI p).toNatClampNeg
    · obtain ⟨j, h1, h2, hX, hY⟩ := ih (k + 1) (by omega) (by omega)
      exact ⟨j, by omega, h2, fun post h => br_f c ⟨i1, i2, br_t z (nm_r (nI_1 k) (nm_r (nI_1 k) (hX post h)))⟩, fun post h => br_f c (br_t rfl ⟨i1, i2, br_t z (nm_r (nI_1 k) (nm_r (nI_1 k) (hY post h)))⟩)⟩
    · exact ⟨k, by omega, by omega, fun post h => br_f c ⟨i1, i2, br_f z h⟩, fun post h => br_f c (br_t rfl ⟨i1, i2, br_f z (nm_r (nI_1 k) (rd_idle i p n k a hn post h d (k + 1) (by omega) (by omega)))⟩)⟩
theorem rd_core (i p n : Nat) (a : Nat → Int32) (hn : n ≤ 32) (h : i + p ≤ n) : ((∀ post : Int32 → Prop, post 0 → wX_isRun_27 post (nI i) (nI p) (nI n) a) ∧ (∀ post : Int32 → Prop, post (-1) → wY_runEnd_37 post (nI i) (nI p) (nI n) a)) ∨ (∃ j : Nat, i + 2 * p ≤ j ∧ j ≤ n ∧ (∀ post : Int32 → Prop, post 1 → wX_isRun_27 post (nI i) (nI p) (nI n) a) ∧ (∀ post : Int32 → Prop, post (nI j) → wpX_reach post (nI n, a) (nI i) (nI p)) ∧ (∀ post : Int32 → Prop, post (nI j) → wY_runEnd_37 post (nI i) (nI p) (nI n) a)) := by
  obtain ⟨j, h1, h2, hX, hY⟩ := rd_reach i p n a hn (n - (i + p)) (i + p) (by omega) (by omega)
  have hR : ∀ post : Int32 → Prop, post (nI j) → wpX_reach post (nI n, a) (nI i) (nI p) := fun post hp => nm_r (nI_add i p) (nm_r (nI_add i p) ⟨_, hX post hp⟩)
  have hE : ∀ post : Int32 → Prop, rd_T i p n a post (nI j) → wY_runEnd_37 post (nI i) (nI p) (nI n) a := fun post hp => nm_r (nI_add i p) (nm_r (nI_add i p) ⟨_, hY post hp⟩)
  have e1 : nI j - nI i = nI (j - i) := pk_sub (by omega)
  have e2 : (2 : Int32) * nI p = nI (2 * p) := by rw [← ra_2]; exact pk_mul 2 p
  by_cases hs : j - i < 2 * p
  · have c : nI j - nI i < 2 * nI p := by rw [e1, e2]; exact nI_lt hs (by omega)
    refine Or.inl ⟨fun post hp => ?_, fun post hp => hE post (br_t c hp)⟩
    unfold wX_isRun_27
    exact hR _ (br_t c hp)
  · have c : ¬ nI j - nI i < 2 * nI p := by rw [e1, e2]; exact nI_nlt (by omega) (by omega)
    obtain ⟨r, rX, rY⟩ := rc_least (nI n) a i j (by omega) (by omega)
    by_cases hr : r = nI p
    · refine Or.inr ⟨j, by omega, h2, fun post hp => ?_, hR, fun post hp => hE post (br_f c (rY _ (br_t hr hp)))⟩
      unfold wX_isRun_27
      exact hR _ (br_f c (rX _ (br_t hr hp)))
    · refine Or.inl ⟨fun post hp => ?_, fun post hp => hE post (br_f c (rY _ (br_f hr hp)))⟩
      unfold wX_isRun_27
      exact hR _ (br_f c (rX _ (br_f hr hp)))
theorem rd_run (i p n : Nat) (a : Nat → Int32) (hn : n ≤ 32) (h : i + p < n) : ((∀ post : Int32 → Prop, post 0 → wpX_isRun post (nI n, a) (nI i) (nI p)) ∧ (∀ post : Int32 → Prop, post (-1) → wpY_runEnd post (nI n, a) (nI i) (nI p))) ∨ (∃ j : Nat, i + 2 * p ≤ j ∧ j ≤ n ∧ (∀ post : Int32 → Prop, post 1 → wpX_isRun post (nI n, a) (nI i) (nI p)) ∧ (∀ post : Int32 → Prop, post (nI j) → wpX_reach post (nI n, a) (nI i) (nI p)) ∧ (∀ post : Int32 → Prop, post (nI j) → wpY_runEnd post (nI n, a) (nI i) (nI p))) := by
  have c : ¬ nI n ≤ nI i + nI p := by rw [nI_add]; exact nI_ge (by omega) (by omega)
  cases i with
  | zero =>
    have h0 : nI 0 ≤ 0 := by decide
    rcases rd_core 0 p n a hn (by omega) with ⟨hX, hY⟩ | ⟨j, j1, j2, hX, hR, hY⟩
    · exact Or.inl ⟨fun post hp => br_t h0 (hX post hp), fun post hp => br_f c (br_t h0 (hY post hp))⟩
    · exact Or.inr ⟨j, j1, j2, fun post hp => br_t h0 (hX post hp), hR, fun post hp => br_f c (br_t h0 (hY post hp))⟩
  | succ i =>
    have h0 : ¬ nI (i + 1) ≤ 0 := nI_nle (by omega) (by omega)
    have i1 : vp_in (nI (i + 1) - 1) 32 := pk_in i 32 (by omega) (nI_pred i)
    have i2 : vp_in ((nI (i + 1) - 1) + nI p) 32 := pk_in (i + p) 32 (by omega) (by rw [nI_pred, nI_add])
    by_cases z : a (nI (i + 1) - 1).toNatClampNeg = a ((nI (i + 1) - 1) + nI p).toNatClampNeg
    · exact Or.inl ⟨fun post hp => br_f h0 ⟨i1, i2, br_t z hp⟩, fun post hp => br_f c (br_f h0 ⟨i1, i2, br_t z hp⟩)⟩
    · rcases rd_core (i + 1) p n a hn (by omega) with ⟨hX, hY⟩ | ⟨j, j1, j2, hX, hR, hY⟩
      · exact Or.inl ⟨fun post hp => br_f h0 ⟨i1, i2, br_f z (hX post hp)⟩, fun post hp => br_f c (br_f h0 ⟨i1, i2, br_f z (hY post hp)⟩)⟩
      · exact Or.inr ⟨j, j1, j2, fun post hp => br_f h0 ⟨i1, i2, br_f z (hX post hp)⟩, hR, fun post hp => br_f c (br_f h0 ⟨i1, i2, br_f z (hY post hp)⟩)⟩
theorem rd_none (i p n : Nat) (a : Nat → Int32) (hn : n ≤ 32) (hi : i < n) (hp : p ≤ 16) (h : n < i + 2 * p) : ∀ post : Int32 → Prop, post (-1) → wpY_runEnd post (nI n, a) (nI i) (nI p) := by
  intro post q
  by_cases hc : n ≤ i + p
  · have c : nI n ≤ nI i + nI p := by rw [nI_add]; exact nI_le (by omega) (by omega)
    exact br_t c q
  · rcases rd_run i p n a hn (by omega) with ⟨_, hY⟩ | ⟨j, j1, j2, _⟩
    · exact hY post q
    · exact absurd j1 (by omega)
end
section
theorem re_e (i p : Nat) : nI i + 2 * nI p = nI (i + 2 * p) := by rw [← ra_2, pk_mul, nI_add]
theorem re_gt {p : Nat} (h : p = 17) : (16 : Int32) < nI p := by rw [← ra_16]; exact nI_lt (by omega) (by omega)
theorem re_ngt {p : Nat} (h : p ≤ 16) : ¬ (16 : Int32) < nI p := by rw [← ra_16]; exact nI_nlt h (by omega)
theorem re_m1 : (-1 : Int32) < 0 := by decide
theorem re_tail (i n : Nat) (a : Nat → Int32) (hn : n ≤ 32) (hi : i < n) : ∀ d p : Nat, p + d = 17 → n < i + 2 * p → ∀ (post : Int32 → Prop) (J : Int32 → Int32 → Prop) (c : Int32), J c (nI (i + 1)) → wY_runs_14 post J (nI i) (nI n) a (d + 1) c (nI p) := by
  intro d
  induction d with
  | zero => intro p hp hx post J c h; exact br_t (re_gt (by omega)) (nm_r (nI_1 i) h)
  | succ d ih =>
    intro p hp hx post J c h
    exact br_f (re_ngt (by omega)) (rd_none i p n a hn hi (by omega) hx _ (br_t re_m1 (nm_r (nI_1 p) (ih (p + 1) (by omega) (by omega) post J c h))))
theorem re_in (i n : Nat) (a : Nat → Int32) (hn : n ≤ 32) (hi : i < n) : ∀ d p : Nat, p + d = 17 → 1 ≤ p → ∀ c : Int32, ∃ c' : Int32, (∀ (post : Int32 → Prop) (J : Int32 → Int32 → Prop), J c' (nI (i + 1)) → ∃ f : Nat, wX_runs_14 post J (nI i) (nI n) a f c (nI p)) ∧ (∀ (post : Int32 → Prop) (J : Int32 → Int32 → Prop), J c' (nI (i + 1)) → wY_runs_14 post J (nI i) (nI n) a (d + 1) c (nI p)) := by
  intro d
  induction d with
  | zero =>
    intro p hp h1 c
    have cX : nI n < nI i + 2 * nI p := by rw [re_e]; exact nI_lt (by omega) (by omega)
    exact ⟨c, fun post J h => ⟨1, br_t cX (nm_r (nI_1 i) h)⟩, fun post J h => re_tail i n a hn hi 0 p hp (by omega) post J c h⟩
  | succ d ih =>
    intro p hp h1 c
    by_cases hx : n < i + 2 * p
    · have cX : nI n < nI i + 2 * nI p := by rw [re_e]; exact nI_lt (by omega) (by omega)
      exact ⟨c, fun post J h => ⟨1, br_t cX (nm_r (nI_1 i) h)⟩, fun post J h => re_tail i n a hn hi (d + 1) p hp hx post J c h⟩
    · have cX : ¬ nI n < nI i + 2 * nI p := by rw [re_e]; exact nI_nlt (by omega) (by omega)
      rcases rd_run i p n a hn (by omega) with ⟨hX, hY⟩ | ⟨j, j1, j2, hX, _, hY⟩
      · obtain ⟨c', rX, rY⟩ := ih (p + 1) (by omega) (by omega) c
        refine ⟨c', fun post J h => ?_, fun post J h => ?_⟩
        · obtain ⟨f, hf⟩ := rX post J h
          exact ⟨f + 1, br_f cX (hX _ (br_t rfl (nm_r (nI_1 p) hf)))⟩
        · exact br_f (re_ngt (by omega)) (hY _ (br_t re_m1 (nm_r (nI_1 p) (rY post J h))))
      · obtain ⟨c', rX, rY⟩ := ih (p + 1) (by omega) (by omega) (c + 1)
        refine ⟨c', fun post J h => ?_, fun post J h => ?_⟩
        · obtain ⟨f, hf⟩ := rX post J h
          exact ⟨f + 1, br_f cX (hX _ (br_f (by decide) (nm_e (nm_r (nI_1 p) hf))))⟩
        · exact br_f (re_ngt (by omega)) (hY _ (br_f (nI_pos (by omega)) (nm_e (nm_r (nI_1 p) (rY post J h)))))
theorem re_out (n : Nat) (a : Nat → Int32) (hn : n ≤ 32) : ∀ d i : Nat, i + d = n → ∀ c : Int32, ∃ r : Int32, (∀ post : Int32 → Prop, post r → wX_runs_4 post (nI n) a (d + 1) c (nI i)) ∧ (∀ post : Int32 → Prop, post r → wY_runs_4 post (nI n) a (d + 1) c (nI i)) := by
  intro d
  induction d with
  | zero =>
    intro i hi c
    exact ⟨c, fun post h => br_t (nI_le (by omega) (by omega)) h, fun post h => br_t (nI_le (by omega) (by omega)) h⟩
  | succ d ih =>
    intro i hi c
    have h : ¬ nI n ≤ nI i := nI_ge (by omega) (by omega)
    obtain ⟨c', hX, hY⟩ := re_in i n a hn (by omega) 16 1 (by omega) (by omega) c
    obtain ⟨r, rX, rY⟩ := ih (i + 1) (by omega) c'
    exact ⟨r, fun post q => br_f h (hX post _ (rX post q)), fun post q => br_f h ⟨_, hY post _ (rY post q)⟩⟩
theorem i_vc_runs {k : Nat} {u : SX} {v : SY} (I : i_Rel k u v) (hk : k + 3 ≤ 1536) : wpX_runs (fun r => wpY_runs (fun r' => r' = r ∧ i_Rel (k + 3) u v) v) u := by
  obtain ⟨n, a, hn, rfl, rfl⟩ := I
  unfold wpX_runs wpY_runs
  dsimp only
  obtain ⟨r, rX, rY⟩ := re_out n a hn n 0 (by omega) 0
  exact ⟨_, rX _ ⟨_, rY _ ⟨rfl, n, a, hn, rfl, rfl⟩⟩⟩
theorem rf_tail (i n : Nat) (a : Nat → Int32) (hn : n ≤ 32) (hi : i < n) : ∀ d p : Nat, p + d = 17 → n < i + 2 * p → ∀ (post : Int32 → Prop) (J : Int32 → Int32 → Prop) (c : Int32), J c (nI (i + 1)) → wY_squares_14 post J (nI i) (nI n) a (d + 1) c (nI p) := by
  intro d
  induction d with
  | zero => intro p hp hx post J c h; exact br_t (re_gt (by omega)) (nm_r (nI_1 i) h)
  | succ d ih =>
    intro p hp hx post J c h
    have cX : nI n < nI i + 2 * nI p := by rw [re_e]; exact nI_lt (by omega) (by omega)
    exact br_f (re_ngt (by omega)) (br_t cX (nm_r (nI_1 p) (ih (p + 1) (by omega) (by omega) post J c h)))
theorem rf_in (i n : Nat) (a : Nat → Int32) (hn : n ≤ 32) (hi : i < n) : ∀ d p : Nat, p + d = 17 → 1 ≤ p → ∀ c : Int32, ∃ c' : Int32, (∀ (post : Int32 → Prop) (J : Int32 → Int32 → Prop), J c' (nI (i + 1)) → ∃ f : Nat, wX_squares_14 post J (nI i) (nI n) a f c (nI p)) ∧ (∀ (post : Int32 → Prop) (J : Int32 → Int32 → Prop), J c' (nI (i + 1)) → wY_squares_14 post J (nI i) (nI n) a (d + 1) c (nI p)) := by
  intro d
  induction d with
  | zero =>
    intro p hp h1 c
    have cX : nI n < nI i + 2 * nI p := by rw [re_e]; exact nI_lt (by omega) (by omega)
    exact ⟨c, fun post J h => ⟨1, br_t cX (nm_r (nI_1 i) h)⟩, fun post J h => rf_tail i n a hn hi 0 p hp (by omega) post J c h⟩
  | succ d ih =>
    intro p hp h1 c
    by_cases hx : n < i + 2 * p
    · have cX : nI n < nI i + 2 * nI p := by rw [re_e]; exact nI_lt (by omega) (by omega)
      exact ⟨c, fun post J h => ⟨1, br_t cX (nm_r (nI_1 i) h)⟩, fun post J h => rf_tail i n a hn hi (d + 1) p hp hx post J c h⟩
    · have cX : ¬ nI n < nI i + 2 * nI p := by rw [re_e]; exact nI_nlt (by omega) (by omega)
      have H := rc_has (nI n) a i (i + 2 * p) p (by omega) (by omega)
      rw [← re_e] at H
      rcases H with ⟨hX, hY⟩ | ⟨hX, hY⟩
      · obtain ⟨c', rX, rY⟩ := ih (p + 1) (by omega) (by omega) (c + 1)
        refine ⟨c', fun post J h => ?_, fun post J h => ?_⟩
        · obtain ⟨f, hf⟩ := rX post J h
          exact ⟨f + 1, br_f cX (hX _ (br_f (by decide) (nm_e (nm_r (nI_1 p) hf))))⟩
        · exact br_f (re_ngt (by omega)) (br_f cX (hY _ (br_f (by decide) (nm_e (nm_r (nI_1 p) (rY post J h))))))
      · obtain ⟨c', rX, rY⟩ := ih (p + 1) (by omega) (by omega) c
        refine ⟨c', fun post J h => ?_, fun post J h => ?_⟩
        · obtain ⟨f, hf⟩ := rX post J h
          exact ⟨f + 1, br_f cX (hX _ (br_t rfl (nm_r (nI_1 p) hf)))⟩
        · exact br_f (re_ngt (by omega)) (br_f cX (hY _ (br_t rfl (nm_r (nI_1 p) (rY post J h)))))
theorem rf_out (n : Nat) (a : Nat → Int32) (hn : n ≤ 32) : ∀ d i : Nat, i + d = n → ∀ c : Int32, ∃ r : Int32, (∀ post : Int32 → Prop, post r → wX_squares_4 post (nI n) a (d + 1) c (nI i)) ∧ (∀ post : Int32 → Prop, post r → wY_squares_4 post (nI n) a (d + 1) c (nI i)) := by
  intro d
  induction d with
  | zero =>
    intro i hi c
    exact ⟨c, fun post h => br_t (nI_le (by omega) (by omega)) h, fun post h => br_t (nI_le (by omega) (by omega)) h⟩
  | succ d ih =>
    intro i hi c
    have h : ¬ nI n ≤ nI i := nI_ge (by omega) (by omega)
    obtain ⟨c', hX, hY⟩ := rf_in i n a hn (by omega) 16 1 (by omega) (by omega) c
    obtain ⟨r, rX, rY⟩ := ih (i + 1) (by omega) c'
    exact ⟨r, fun post q => br_f h (hX post _ (rX post q)), fun post q => br_f h ⟨_, hY post _ (rY post q)⟩⟩
theorem i_vc_squares {k : Nat} {u : SX} {v : SY} (I : i_Rel k u v) (hk : k + 3 ≤ 1536) : wpX_squares (fun r => wpY_squares (fun r' => r' = r ∧ i_Rel (k + 3) u v) v) u := by
  obtain ⟨n, a, hn, rfl, rfl⟩ := I
  unfold wpX_squares wpY_squares
  dsimp only
  obtain ⟨r, rX, rY⟩ := rf_out n a hn n 0 (by omega) 0
  exact ⟨_, rX _ ⟨_, rY _ ⟨rfl, n, a, hn, rfl, rfl⟩⟩⟩
end
section
/-- a run from i to j with the period q, as both searches give it -/
def rg_F (n : Nat) (a : Nat → Int32) (i q j : Nat) : Prop := 1 ≤ q ∧ i + 2 * q ≤ j ∧ j ≤ n ∧ ∀ post : Int32 → Prop, post (nI j) → wpX_reach post (nI n, a) (nI i) (nI q)
def rg_x (i q : Nat) : Nat := i * 64 + q
def rg_y (i q j : Nat) : Nat := i * 1024 + q * 32 + j - 1
theorem rg_ex (i q : Nat) : nI i * 64 + nI q = nI (rg_x i q) := by
  unfold rg_x
  rw [← ra_64, pk_mul, nI_add]
theorem rg_ey (i q j : Nat) (h : 1 ≤ j) : nI i * 1024 + nI q * 32 + nI j - 1 = nI (rg_y i q j) := by
  unfold rg_y
  rw [← ra_1024, ← ra_32, pk_mul, pk_mul, nI_add, nI_add, ← ra_1]
  exact pk_sub (by omega)
theorem rg_tail (x1 : Int32) (i n : Nat) (a : Nat → Int32) (hn : n ≤ 32) (hi : i < n) : ∀ d p : Nat, p + d = 17 → n < i + 2 * p → ∀ (post : Int32 → Prop) (J : Int32 → Int32 → Prop) (c : Int32), J c (nI (i + 1)) → wY_run_15 post J x1 (nI i) (nI n) a (d + 1) c (nI p) := by
  intro d
  induction d with
  | zero => intro p hp hx post J c h; exact br_t (re_gt (by omega)) (nm_r (nI_1 i) h)
  | succ d ih =>
    intro p hp hx post J c h
    exact br_f (re_ngt (by omega)) (rd_none i p n a hn hi (by omega) hx _ (br_t re_m1 (nm_r (nI_1 p) (ih (p + 1) (by omega) (by omega) post J c h))))
theorem rg_in (x1 : Int32) (i n : Nat) (a : Nat → Int32) (hn : n ≤ 32) (hi : i < n) : ∀ d p : Nat, p + d = 17 → 1 ≤ p → ∀ c : Int32, (∃ c' : Int32, (∀ (post : Int32 → Prop) (J : Int32 → Int32 → Prop), J c' (nI (i + 1)) → ∃ f : Nat, wX_findRun_15 post J x1 (nI i) (nI n) a f c (nI p)) ∧ (∀ (post : Int32 → Prop) (J : Int32 → Int32 → Prop), J c' (nI (i + 1)) → wY_run_15 post J x1 (nI i) (nI n) a (d + 1) c (nI p))) ∨ (∃ q j : Nat, rg_F n a i q j ∧ (∀ (post : Int32 → Prop) (J : Int32 → Int32 → Prop), post (nI (rg_x i q)) → ∃ f : Nat, wX_findRun_15 post J x1 (nI i) (nI n) a f c (nI p)) ∧ (∀ (post : Int32 → Prop) (J : Int32 → Int32 → Prop), post (nI (rg_y i q j)) → wY_run_15 post J x1 (nI i) (nI n) a (d + 1) c (nI p))) := by
  intro d
  induction d with
  | zero =>
    intro p hp h1 c
    have cX : nI n < nI i + 2 * nI p := by rw [re_e]; exact nI_lt (by omega) (by omega)
    exact Or.inl ⟨c, fun post J h => ⟨1, br_t cX (nm_r (nI_1 i) h)⟩, fun post J h => rg_tail x1 i n a hn hi 0 p hp (by omega) post J c h⟩
  | succ d ih =>
    intro p hp h1 c
    by_cases hx : n < i + 2 * p
    · have cX : nI n < nI i + 2 * nI p := by rw [re_e]; exact nI_lt (by omega) (by omega)
      exact Or.inl ⟨c, fun post J h => ⟨1, br_t cX (nm_r (nI_1 i) h)⟩, fun post J h => rg_tail x1 i n a hn hi (d + 1) p hp hx post J c h⟩
    · have cX : ¬ nI n < nI i + 2 * nI p := by rw [re_e]; exact nI_nlt (by omega) (by omega)
      have cY : ¬ (16 : Int32) < nI p := re_ngt (by omega)
      rcases rd_run i p n a hn (by omega) with ⟨hX, hY⟩ | ⟨j, j1, j2, hX, hR, hY⟩
      · have sX : ∀ (post : Int32 → Prop) (J : Int32 → Int32 → Prop), (∃ f : Nat, wX_findRun_15 post J x1 (nI i) (nI n) a f c (nI (p + 1))) → ∃ f : Nat, wX_findRun_15 post J x1 (nI i) (nI n) a f c (nI p) := fun post J ⟨f, hf⟩ => ⟨f + 1, br_f cX (hX _ (br_t rfl (nm_r (nI_1 p) hf)))⟩
        have sY : ∀ (post : Int32 → Prop) (J : Int32 → Int32 → Prop), wY_run_15 post J x1 (nI i) (nI n) a (d + 1) c (nI (p + 1)) → wY_run_15 post J x1 (nI i) (nI n) a (d + 1 + 1) c (nI p) := fun post J hf => br_f cY (hY _ (br_t re_m1 (nm_r (nI_1 p) hf)))
        rcases ih (p + 1) (by omega) (by omega) c with ⟨c', rX, rY⟩ | ⟨q, j, hF, rX, rY⟩
        · exact Or.inl ⟨c', fun post J h => sX post J (rX post J h), fun post J h => sY post J (rY post J h)⟩
        · exact Or.inr ⟨q, j, hF, fun post J h => sX post J (rX post J h), fun post J h => sY post J (rY post J h)⟩
      · have hz : ¬ nI j < 0 := nI_pos (by omega)
        by_cases hc : c = x1
        · refine Or.inr ⟨p, j, ⟨h1, j1, j2, hR⟩, fun post J h => ⟨1, br_f cX (hX _ (br_f (by decide) (br_t hc ?_)))⟩, fun post J h => br_f cY (hY _ (br_f hz (br_t hc ?_)))⟩
          · rw [rg_ex]; exact h
          · rw [rg_ey i p j (by omega)]; exact h
        · have sX : ∀ (post : Int32 → Prop) (J : Int32 → Int32 → Prop), (∃ f : Nat, wX_findRun_15 post J x1 (nI i) (nI n) a f (c + 1) (nI (p + 1))) → ∃ f : Nat, wX_findRun_15 post J x1 (nI i) (nI n) a f c (nI p) := fun post J ⟨f, hf⟩ => ⟨f + 1, br_f cX (hX _ (br_f (by decide) (br_f hc (nm_e (nm_r (nI_1 p) hf)))))⟩
          have sY : ∀ (post : Int32 → Prop) (J : Int32 → Int32 → Prop), wY_run_15 post J x1 (nI i) (nI n) a (d + 1) (c + 1) (nI (p + 1)) → wY_run_15 post J x1 (nI i) (nI n) a (d + 1 + 1) c (nI p) := fun post J hf => br_f cY (hY _ (br_f hz (br_f hc (nm_e (nm_r (nI_1 p) hf)))))
          rcases ih (p + 1) (by omega) (by omega) (c + 1) with ⟨c', rX, rY⟩ | ⟨q, j, hF, rX, rY⟩
          · exact Or.inl ⟨c', fun post J h => sX post J (rX post J h), fun post J h => sY post J (rY post J h)⟩
          · exact Or.inr ⟨q, j, hF, fun post J h => sX post J (rX post J h), fun post J h => sY post J (rY post J h)⟩
theorem rg_out (x1 : Int32) (n : Nat) (a : Nat → Int32) (hn : n ≤ 32) : ∀ d i : Nat, i + d = n → ∀ c : Int32, ((∀ post : Int32 → Prop, post (-4) → wX_findRun_4 post x1 (nI n) a (d + 1) c (nI i)) ∧ (∀ post : Int32 → Prop, post (-1) → wY_run_4 post x1 (nI n) a (d + 1) c (nI i))) ∨ (∃ i' q j : Nat, rg_F n a i' q j ∧ (∀ post : Int32 → Prop, post (nI (rg_x i' q)) → wX_findRun_4 post x1 (nI n) a (d + 1) c (nI i)) ∧ (∀ post : Int32 → Prop, post (nI (rg_y i' q j)) → wY_run_4 post x1 (nI n) a (d + 1) c (nI i))) := by
  intro d
  induction d with
  | zero =>
    intro i hi c
    exact Or.inl ⟨fun post h => br_t (nI_le (by omega) (by omega)) h, fun post h => br_t (nI_le (by omega) (by omega)) h⟩
  | succ d ih =>
    intro i hi c
    have h : ¬ nI n ≤ nI i := nI_ge (by omega) (by omega)
    rcases rg_in x1 i n a hn (by omega) 16 1 (by omega) (by omega) c with ⟨c', hX, hY⟩ | ⟨q, j, hF, hX, hY⟩
    · rcases ih (i + 1) (by omega) c' with ⟨rX, rY⟩ | ⟨i', q, j, hF, rX, rY⟩
      · exact Or.inl ⟨fun post z => br_f h (hX post _ (rX post z)), fun post z => br_f h ⟨_, hY post _ (rY post z)⟩⟩
      · exact Or.inr ⟨i', q, j, hF, fun post z => br_f h (hX post _ (rX post z)), fun post z => br_f h ⟨_, hY post _ (rY post z)⟩⟩
    · exact Or.inr ⟨i, q, j, hF, fun post z => br_f h (hX post _ z), fun post z => br_f h ⟨_, hY post _ z⟩⟩
theorem rg_find (x1 : Int32) (n : Nat) (a : Nat → Int32) (hn : n ≤ 32) : ((∀ post : Int32 → Prop, post (-4) → wpX_findRun post (nI n, a) x1) ∧ (∀ post : Int32 → Prop, post (-1) → wpY_run post (nI n, a) x1)) ∨ (∃ i q j : Nat, rg_F n a i q j ∧ (∀ post : Int32 → Prop, post (nI (rg_x i q)) → wpX_findRun post (nI n, a) x1) ∧ (∀ post : Int32 → Prop, post (nI (rg_y i q j)) → wpY_run post (nI n, a) x1)) := by
  rcases rg_out x1 n a hn n 0 (by omega) 0 with ⟨hX, hY⟩ | ⟨i, q, j, hF, hX, hY⟩
  · exact Or.inl ⟨fun post z => ⟨_, hX post z⟩, fun post z => ⟨_, hY post z⟩⟩
  · exact Or.inr ⟨i, q, j, hF, fun post z => ⟨_, hX post z⟩, fun post z => ⟨_, hY post z⟩⟩
theorem rg_n4 {x : Nat} (h : x < 2 ^ 31) : ¬ nI x = -4 := by
  intro e
  have h1 := nI_pos h
  rw [e] at h1
  exact h1 (by decide)
theorem rg_m1 : ¬ (0 : Int32) ≤ -1 := by decide
theorem rg_64 : ¬ (64 : Int32) = 0 := by decide
theorem rg_32 : ¬ (32 : Int32) = 0 := by decide
theorem rg_1024 : ¬ (1024 : Int32) = 0 := by decide
theorem i_vc_begin {k : Nat} {u : SX} {v : SY} (I : i_Rel k u v) (hk : k + 3 ≤ 1536) (v1 : Int32) : wpX_begin (fun r => wpY_begin (fun r' => r' = r ∧ i_Rel (k + 3) u v) v v1) u v1 := by
  obtain ⟨n, a, hn, rfl, rfl⟩ := I
  unfold wpX_begin wpY_begin
  dsimp only
  rcases rg_find v1 n a hn with ⟨hX, hY⟩ | ⟨i, q, j, ⟨h1, h2, h3, hR⟩, hX, hY⟩
  · refine hX _ (br_t rfl ?_)
    exact hY _ (br_f rg_m1 ⟨rfl, n, a, hn, rfl, rfl⟩)
  · have bx : rg_x i q < 2 ^ 31 := by unfold rg_x; omega
    have bY : rg_y i q j < 2 ^ 31 := by unfold rg_y; omega
    have ex : nI (rg_x i q) / 64 = nI i := by
      rw [← ra_64, pk_div bx (by omega) (by omega)]
      exact congrArg nI (by unfold rg_x; omega)
    have ey : nI (rg_y i q j) / 1024 = nI i := by
      rw [← ra_1024, pk_div bY (by omega) (by omega)]
      exact congrArg nI (by unfold rg_y; omega)
    refine hX _ (br_f (rg_n4 bx) ⟨rg_64, ?_⟩)
    refine hY _ (br_t (nI_pos' bY) ⟨rg_1024, ?_⟩)
    exact ⟨ey.trans ex.symm, n, a, hn, rfl, rfl⟩
theorem i_vc_end {k : Nat} {u : SX} {v : SY} (I : i_Rel k u v) (hk : k + 3 ≤ 1536) (v1 : Int32) : wpX_end (fun r => wpY_end (fun r' => r' = r ∧ i_Rel (k + 3) u v) v v1) u v1 := by
  obtain ⟨n, a, hn, rfl, rfl⟩ := I
  unfold wpX_end wpY_end
  dsimp only
  rcases rg_find v1 n a hn with ⟨hX, hY⟩ | ⟨i, q, j, ⟨h1, h2, h3, hR⟩, hX, hY⟩
  · refine hX _ (br_t rfl ?_)
    exact hY _ (br_f rg_m1 ⟨rfl, n, a, hn, rfl, rfl⟩)
  · have bx : rg_x i q < 2 ^ 31 := by unfold rg_x; omega
    have bY : rg_y i q j < 2 ^ 31 := by unfold rg_y; omega
    have ex : nI (rg_x i q) / 64 = nI i := by
      rw [← ra_64, pk_div bx (by omega) (by omega)]
      exact congrArg nI (by unfold rg_x; omega)
    have ez : nI (rg_x i q) - nI (rg_x i q) / 64 * 64 = nI q := by
      rw [← ra_64, pk_rem bx (by omega) (by omega)]
      exact congrArg nI (by unfold rg_x; omega)
    have ey : nI (rg_y i q j) - nI (rg_y i q j) / 32 * 32 + 1 = nI j := by
      rw [← ra_32, pk_rem bY (by omega) (by omega), nI_1]
      exact congrArg nI (by unfold rg_y; omega)
    refine hX _ (br_f (rg_n4 bx) ⟨rg_64, rg_64, ?_⟩)
    rw [ez, ex]
    refine hR _ ?_
    refine hY _ (br_t (nI_pos' bY) ⟨rg_32, ?_⟩)
    exact ⟨ey, n, a, hn, rfl, rfl⟩
theorem i_vc_period {k : Nat} {u : SX} {v : SY} (I : i_Rel k u v) (hk : k + 3 ≤ 1536) (v1 : Int32) : wpX_period (fun r => wpY_period (fun r' => r' = r ∧ i_Rel (k + 3) u v) v v1) u v1 := by
  obtain ⟨n, a, hn, rfl, rfl⟩ := I
  unfold wpX_period wpY_period
  dsimp only
  rcases rg_find v1 n a hn with ⟨hX, hY⟩ | ⟨i, q, j, ⟨h1, h2, h3, hR⟩, hX, hY⟩
  · refine hX _ (br_t rfl ?_)
    exact hY _ (br_f rg_m1 ⟨rfl, n, a, hn, rfl, rfl⟩)
  · have bx : rg_x i q < 2 ^ 31 := by unfold rg_x; omega
    have bY : rg_y i q j < 2 ^ 31 := by unfold rg_y; omega
    have b2 : rg_y i q j / 32 < 2 ^ 31 := by omega
    have ez : nI (rg_x i q) - nI (rg_x i q) / 64 * 64 = nI q := by
      rw [← ra_64, pk_rem bx (by omega) (by omega)]
      exact congrArg nI (by unfold rg_x; omega)
    have ey : nI (rg_y i q j) / 32 - nI (rg_y i q j) / 32 / 32 * 32 = nI q := by
      have e3 : rg_y i q j / 32 = i * 32 + q := by unfold rg_y; omega
      rw [← ra_32, pk_div bY (by omega) (by omega), pk_rem b2 (by omega) (by omega), e3]
      exact congrArg nI (by omega)
    refine hX _ (br_f (rg_n4 bx) ⟨rg_64, ?_⟩)
    refine hY _ (br_t (nI_pos' bY) ⟨rg_32, rg_32, ?_⟩)
    exact ⟨ey.trans ez.symm, n, a, hn, rfl, rfl⟩
end
section
/-- the text up to e with one smallest letter behind it -/
def rh_b (a : Nat → Int32) (e m : Nat) : Int := if m < e then (a m).toInt else -4294967296
/-- the stretch from x to e is smaller than that from y to e -/
def rh_lt (a : Nat → Int32) (e x y : Nat) : Prop := ∃ k : Nat, (∀ m : Nat, m < k → rh_b a e (x + m) = rh_b a e (y + m)) ∧ rh_b a e (x + k) < rh_b a e (y + k)
theorem rh_in {a : Nat → Int32} {e m : Nat} (h : m < e) : rh_b a e m = (a m).toInt := if_pos h
theorem rh_ou {a : Nat → Int32} {e m : Nat} (h : e ≤ m) : rh_b a e m = -4294967296 := if_neg (by omega)
theorem rh_low {a : Nat → Int32} {e x y : Nat} (hx : e ≤ x) (hy : y < e) : rh_b a e x < rh_b a e y := by
  rw [rh_ou hx, rh_in hy]
  have h := Int32.le_toInt (a y)
  omega
theorem rh_trans {a : Nat → Int32} {e x y z : Nat} (h1 : rh_lt a e x y) (h2 : rh_lt a e y z) : rh_lt a e x z := by
  obtain ⟨k, p1, q1⟩ := h1
  obtain ⟨l, p2, q2⟩ := h2
  by_cases h : k < l
  · refine ⟨k, fun m hm => (p1 m hm).trans (p2 m (by omega)), ?_⟩
    rw [← p2 k h]; exact q1
  · by_cases h' : l < k
    · refine ⟨l, fun m hm => (p1 m (by omega)).trans (p2 m hm), ?_⟩
      rw [p1 l h']; exact q2
    · have e1 : k = l := by omega
      subst e1
      exact ⟨k, fun m hm => (p1 m hm).trans (p2 m hm), Int.lt_trans q1 q2⟩
theorem rh_irr {a : Nat → Int32} {e x : Nat} (h : rh_lt a e x x) : False := by
  obtain ⟨k, _, q⟩ := h
  exact Int.lt_irrefl _ q
/-- m begins the smallest stretch to e of those that begin from lo on and before hi -/
def rh_L (a : Nat → Int32) (e lo hi m : Nat) : Prop := lo ≤ m ∧ m < hi ∧ ∀ x : Nat, lo ≤ x → x < hi → x ≠ m → rh_lt a e m x
theorem rh_uni {a : Nat → Int32} {e lo hi m m' : Nat} (h : rh_L a e lo hi m) (h' : rh_L a e lo hi m') : m = m' := by
  by_cases z : m = m'
  · exact z
  · exact (rh_irr (rh_trans (h.2.2 m' h'.1 h'.2.1 (fun e => z e.symm)) (h'.2.2 m h.1 h.2.1 z))).elim
theorem rh_sX (L : Int32) (a : Nat → Int32) (e x y : Nat) (hxy : x < y) (he : e ≤ 32) (hy : y < e) : ∀ d k : Nat, y + k + d = e → (∀ m : Nat, m < k → rh_b a e (x + m) = rh_b a e (y + m)) → (rh_lt a e x y ∧ ∀ post : Int32 → Prop, post 1 → wX_isSmaller_3 post (nI x) (nI y) (nI e) L a (d + 1) (nI k)) ∨ (rh_lt a e y x ∧ ∀ post : Int32 → Prop, post 0 → wX_isSmaller_3 post (nI x) (nI y) (nI e) L a (d + 1) (nI k)) := by
  intro d
  induction d with
  | zero =>
    intro k hk hm
    refine Or.inr ⟨⟨k, fun m h => (hm m h).symm, rh_low (by omega) (by omega)⟩, fun post hp => br_t ?_ hp⟩
    rw [nI_add]
    exact nI_le (by omega) (by omega)
  | succ d ih =>
    intro k hk hm
    have c : ¬ nI e ≤ nI y + nI k := by rw [nI_add]; exact nI_ge (by omega) (by omega)
    have i1 : vp_in (nI x + nI k) 32 := pk_in (x + k) 32 (by omega) (nI_add x k)
    have i2 : vp_in (nI y + nI k) 32 := pk_in (y + k) 32 (by omega) (nI_add y k)
    have w1 : (nI x + nI k).toNatClampNeg = x + k := pk_cl (x + k) (nI_add x k)
    have w2 : (nI y + nI k).toNatClampNeg = y + k := pk_cl (y + k) (nI_add y k)
    have b1 : rh_b a e (x + k) = (a (x + k)).toInt := rh_in (by omega)
    have b2 : rh_b a e (y + k) = (a (y + k)).toInt := rh_in (by omega)
    by_cases z : a (x + k) = a (y + k)
    · have zX : a (nI x + nI k).toNatClampNeg = a (nI y + nI k).toNatClampNeg := by rw [w1, w2]; exact z
      have hm' : ∀ m : Nat, m < k + 1 → rh_b a e (x + m) = rh_b a e (y + m) := lt_s hm (by rw [b1, b2, z])
      rcases ih (k + 1) (by omega) hm' with ⟨h1, h2⟩ | ⟨h1, h2⟩
      · exact Or.inl ⟨h1, fun post hp => br_f c ⟨i1, i2, br_t zX (nm_r (nI_1 k) (h2 post hp))⟩⟩
      · exact Or.inr ⟨h1, fun post hp => br_f c ⟨i1, i2, br_t zX (nm_r (nI_1 k) (h2 post hp))⟩⟩
    · have zX : ¬ a (nI x + nI k).toNatClampNeg = a (nI y + nI k).toNatClampNeg := by rw [w1, w2]; exact z
      by_cases g : a (y + k) ≤ a (x + k)
      · have gX : a (nI y + nI k).toNatClampNeg ≤ a (nI x + nI k).toNatClampNeg := by rw [w1, w2]; exact g
        refine Or.inr ⟨⟨k, fun m h => (hm m h).symm, ?_⟩, fun post hp => br_f c ⟨i1, i2, br_f zX ⟨i1, i2, br_t gX hp⟩⟩⟩
        rw [b1, b2]
        have g' := Int32.le_iff_toInt_le.mp g
        have z' : (a (x + k)).toInt ≠ (a (y + k)).toInt := fun e => z (Int32.toInt_inj.mp e)
        omega
      · have gX : ¬ a (nI y + nI k).toNatClampNeg ≤ a (nI x + nI k).toNatClampNeg := by rw [w1, w2]; exact g
        refine Or.inl ⟨⟨k, hm, ?_⟩, fun post hp => br_f c ⟨i1, i2, br_f zX ⟨i1, i2, br_f gX hp⟩⟩⟩
        rw [b1, b2]
        rw [Int32.le_iff_toInt_le] at g
        omega
theorem rh_sY (L : Int32) (a : Nat → Int32) (e x y : Nat) (hxy : y < x) (he : e ≤ 32) (hx : x < e) : ∀ d k : Nat, x + k + d = e → (∀ m : Nat, m < k → rh_b a e (x + m) = rh_b a e (y + m)) → (rh_lt a e x y ∧ ∀ post : Int32 → Prop, post 1 → wY_smaller_3 post (nI x) (nI y) (nI e) L a (d + 1) (nI k)) ∨ (rh_lt a e y x ∧ ∀ post : Int32 → Prop, post 0 → wY_smaller_3 post (nI x) (nI y) (nI e) L a (d + 1) (nI k)) := by
  intro d
  induction d with
  | zero =>
    intro k hk hm
    have c0 : ¬ (32 : Int32) ≤ nI k := by rw [← ra_32]; exact nI_ge (by omega) (by omega)
    have c : nI e ≤ nI x + nI k := by rw [nI_add]; exact nI_le (by omega) (by omega)
    have c2 : ¬ nI x ≤ nI y := nI_ge (by omega) (by omega)
    exact Or.inl ⟨⟨k, hm, rh_low (by omega) (by omega)⟩, fun post hp => br_f c0 (br_t c (br_f c2 hp))⟩
  | succ d ih =>
    intro k hk hm
    have c0 : ¬ (32 : Int32) ≤ nI k := by rw [← ra_32]; exact nI_ge (by omega) (by omega)
    have c : ¬ nI e ≤ nI x + nI k := by rw [nI_add]; exact nI_ge (by omega) (by omega)
    have c2 : nI y + nI k < nI e := by rw [nI_add]; exact nI_lt (by omega) (by omega)
    have i1 : vp_in (nI x + nI k) 32 := pk_in (x + k) 32 (by omega) (nI_add x k)
    have i2 : vp_in (nI y + nI k) 32 := pk_in (y + k) 32 (by omega) (nI_add y k)
    have w1 : (nI x + nI k).toNatClampNeg = x + k := pk_cl (x + k) (nI_add x k)
    have w2 : (nI y + nI k).toNatClampNeg = y + k := pk_cl (y + k) (nI_add y k)
    have b1 : rh_b a e (x + k) = (a (x + k)).toInt := rh_in (by omega)
    have b2 : rh_b a e (y + k) = (a (y + k)).toInt := rh_in (by omega)
    by_cases z : a (x + k) = a (y + k)
    · have zX : a (nI x + nI k).toNatClampNeg = a (nI y + nI k).toNatClampNeg := by rw [w1, w2]; exact z
      have hm' : ∀ m : Nat, m < k + 1 → rh_b a e (x + m) = rh_b a e (y + m) := lt_s hm (by rw [b1, b2, z])
      rcases ih (k + 1) (by omega) hm' with ⟨h1, h2⟩ | ⟨h1, h2⟩
      · exact Or.inl ⟨h1, fun post hp => br_f c0 (br_f c (br_t c2 ⟨i1, i2, br_t zX (nm_r (nI_1 k) (h2 post hp))⟩))⟩
      · exact Or.inr ⟨h1, fun post hp => br_f c0 (br_f c (br_t c2 ⟨i1, i2, br_t zX (nm_r (nI_1 k) (h2 post hp))⟩))⟩
    · have zX : ¬ a (nI x + nI k).toNatClampNeg = a (nI y + nI k).toNatClampNeg := by rw [w1, w2]; exact z
      by_cases g : a (y + k) ≤ a (x + k)
      · have gX : a (nI y + nI k).toNatClampNeg ≤ a (nI x + nI k).toNatClampNeg := by rw [w1, w2]; exact g
        refine Or.inr ⟨⟨k, fun m h => (hm m h).symm, ?_⟩, fun post hp => br_f c0 (br_f c (br_t c2 ⟨i1, i2, br_f zX ⟨i1, i2, br_t gX hp⟩⟩))⟩
        rw [b1, b2]
        have g' := Int32.le_iff_toInt_le.mp g
        have z' : (a (x + k)).toInt ≠ (a (y + k)).toInt := fun e => z (Int32.toInt_inj.mp e)
        omega
      · have gX : ¬ a (nI y + nI k).toNatClampNeg ≤ a (nI x + nI k).toNatClampNeg := by rw [w1, w2]; exact g
        refine Or.inl ⟨⟨k, hm, ?_⟩, fun post hp => br_f c0 (br_f c (br_t c2 ⟨i1, i2, br_f zX ⟨i1, i2, br_f gX hp⟩⟩))⟩
        rw [b1, b2]
        rw [Int32.le_iff_toInt_le] at g
        omega
theorem rh_neg (x : Int32) : x + (-1) = x - 1 := by grind
theorem rh_X (L : Int32) (a : Nat → Int32) (e : Nat) (he : e ≤ 32) : ∀ i b : Nat, rh_L a e i e b → ∃ m : Nat, rh_L a e 0 e m ∧ ∀ post : Int32 → Prop, post (nI m) → wX_smallestEndOf_8 post (nI e) L a (i + 1) (nI b) (nI i - 1) := by
  intro i
  induction i with
  | zero =>
    intro b hb
    exact ⟨b, hb, fun post hp => br_t (by decide) hp⟩
  | succ i ih =>
    intro b hb
    obtain ⟨h1, h2, h3⟩ := hb
    have hz : ¬ nI i < 0 := nI_pos (by omega)
    rcases rh_sX L a e i b (by omega) he h2 (e - b) 0 (by omega) (fun m hm => absurd hm (by omega)) with ⟨hl, hw⟩ | ⟨hl, hw⟩
    · obtain ⟨m, hm, hX⟩ := ih i ⟨by omega, by omega, fun x x1 x2 x3 => by
        by_cases q : x = b
        · rw [q]; exact hl
        · exact rh_trans hl (h3 x (by omega) x2 q)⟩
      refine ⟨m, hm, fun post hp => ?_⟩
      rw [nI_pred]
      exact br_f hz ⟨_, hw _ (br_f (by decide) (nm_r (rh_neg (nI i)) (hX post hp)))⟩
    · obtain ⟨m, hm, hX⟩ := ih b ⟨by omega, by omega, fun x x1 x2 x3 => by
        by_cases q : x = i
        · rw [q]; exact hl
        · exact h3 x (by omega) x2 x3⟩
      refine ⟨m, hm, fun post hp => ?_⟩
      rw [nI_pred]
      exact br_f hz ⟨_, hw _ (br_t rfl (nm_r (rh_neg (nI i)) (hX post hp)))⟩
theorem rh_Y (L : Int32) (a : Nat → Int32) (e : Nat) (he : e ≤ 32) : ∀ d i : Nat, i + d = e → ∀ b : Nat, rh_L a e 0 i b → ∃ m : Nat, rh_L a e 0 e m ∧ ∀ post : Int32 → Prop, post (nI m) → wY_smallest_4 post (nI e) L a (d + 1) (nI b) (nI i) := by
  intro d
  induction d with
  | zero =>
    intro i hi b hb
    have ei : i = e := by omega
    subst ei
    exact ⟨b, hb, fun post hp => br_t (nI_le (by omega) (by omega)) hp⟩
  | succ d ih =>
    intro i hi b hb
    obtain ⟨h1, h2, h3⟩ := hb
    have hc : ¬ nI e ≤ nI i := nI_ge (by omega) (by omega)
    rcases rh_sY L a e i b (by omega) he (by omega) (e - i) 0 (by omega) (fun m hm => absurd hm (by omega)) with ⟨hl, hw⟩ | ⟨hl, hw⟩
    · obtain ⟨m, hm, hY⟩ := ih (i + 1) (by omega) i ⟨by omega, by omega, fun x x1 x2 x3 => by
        by_cases q : x = b
        · rw [q]; exact hl
        · exact rh_trans hl (h3 x (by omega) (by omega) q)⟩
      exact ⟨m, hm, fun post hp => br_f hc ⟨_, hw _ (br_f (by decide) (nm_r (nI_1 i) (hY post hp)))⟩⟩
    · obtain ⟨m, hm, hY⟩ := ih (i + 1) (by omega) b ⟨by omega, by omega, fun x x1 x2 x3 => by
        by_cases q : x = i
        · rw [q]; exact hl
        · exact h3 x (by omega) (by omega) x3⟩
      exact ⟨m, hm, fun post hp => br_f hc ⟨_, hw _ (br_t rfl (nm_r (nI_1 i) (hY post hp)))⟩⟩
theorem rh_both (L : Int32) (a : Nat → Int32) (e : Nat) (h1 : 1 ≤ e) (he : e ≤ 32) : ∃ m : Nat, m < e ∧ (∀ post : Int32 → Prop, post (nI m) → wpX_smallestEndOf post (L, a) (nI e)) ∧ (∀ post : Int32 → Prop, post (nI m) → wpY_smallest post (L, a) (nI e)) := by
  obtain ⟨m, hm, hX⟩ := rh_X L a e he (e - 1) (e - 1) ⟨by omega, by omega, fun x x1 x2 x3 => absurd x1 (by omega)⟩
  obtain ⟨m', hm', hY⟩ := rh_Y L a e he (e - 1) 1 (by omega) 0 ⟨by omega, by omega, fun x x1 x2 x3 => absurd x2 (by omega)⟩
  cases rh_uni hm hm'
  obtain ⟨f, rfl⟩ : ∃ f, e = f + 1 := ⟨e - 1, by omega⟩
  have e2 : nI (f + 1) - 2 = nI f - 1 := by
    rw [← nI_1]
    grind
  exact ⟨m, hm.2.1, fun post hp => nm_r (nI_pred f) (nm_r e2 ⟨_, hX post hp⟩), fun post hp => ⟨_, hY post hp⟩⟩
theorem i_vc_smallestEnd {k : Nat} {u : SX} {v : SY} (I : i_Rel k u v) (hk : k + 3 ≤ 1536) : wpX_smallestEnd (fun r => wpY_smallestEnd (fun r' => r' = r ∧ i_Rel (k + 3) u v) v) u := by
  obtain ⟨n, a, hn, rfl, rfl⟩ := I
  unfold wpX_smallestEnd wpY_smallestEnd
  dsimp only
  cases n with
  | zero => exact br_t rfl (br_t rfl ⟨rfl, 0, a, hn, rfl, rfl⟩)
  | succ n =>
    have h0 : ¬ nI (n + 1) = 0 := nI_ne0 (by omega) (by omega)
    obtain ⟨m, hm, hX, hY⟩ := rh_both (nI (n + 1)) a (n + 1) (by omega) hn
    refine br_f h0 (hX _ ?_)
    refine br_f h0 (hY _ ?_)
    exact ⟨rfl, n + 1, a, hn, rfl, rfl⟩
theorem ri_idle (L : Int32) (a : Nat → Int32) : ∀ d k : Nat, k + d = 32 → ∀ (c : Int32) (post : Int32 → Prop), post c → wY_factors_9 post L a (d + 1) c (nI 0) (nI k) := by
  intro d
  induction d with
  | zero =>
    intro k hk c post hp
    have c0 : (32 : Int32) ≤ nI k := by rw [← ra_32]; exact nI_le (by omega) (by omega)
    exact br_t c0 hp
  | succ d ih =>
    intro k hk c post hp
    have c0 : ¬ (32 : Int32) ≤ nI k := by rw [← ra_32]; exact nI_ge (by omega) (by omega)
    exact br_f c0 (br_t (by decide) (nm_r (nI_1 k) (ih (k + 1) (by omega) c post hp)))
theorem ri_loop (L : Int32) (a : Nat → Int32) : ∀ d k : Nat, k + d = 32 → ∀ (e : Nat) (c : Int32), e ≤ 32 → ∃ r : Int32, (∀ post : Int32 → Prop, post r → wX_factors_9 post L a (d + 1) c (nI e) (nI k)) ∧ (∀ post : Int32 → Prop, post r → wY_factors_9 post L a (d + 1) c (nI e) (nI k)) := by
  intro d
  induction d with
  | zero =>
    intro k hk e c he
    have c0 : (32 : Int32) ≤ nI k := by rw [← ra_32]; exact nI_le (by omega) (by omega)
    exact ⟨c, fun post hp => br_t c0 hp, fun post hp => br_t c0 hp⟩
  | succ d ih =>
    intro k hk e c he
    have c0 : ¬ (32 : Int32) ≤ nI k := by rw [← ra_32]; exact nI_ge (by omega) (by omega)
    cases e with
    | zero => exact ⟨c, fun post hp => br_f c0 (br_t (by decide) hp), fun post hp => ri_idle L a (d + 1) k hk c post hp⟩
    | succ e =>
      have h0 : ¬ nI (e + 1) ≤ 0 := nI_nle (by omega) (by omega)
      obtain ⟨m, hm, hX, hY⟩ := rh_both L a (e + 1) (by omega) he
      obtain ⟨r, rX, rY⟩ := ih (k + 1) (by omega) m (c + 1) (by omega)
      exact ⟨r, fun post hp => br_f c0 (br_f h0 (hX _ (nm_e (nm_r (nI_1 k) (rX post hp))))), fun post hp => br_f c0 (br_f h0 (hY _ (nm_e (nm_r (nI_1 k) (rY post hp)))))⟩
theorem i_vc_factors {k : Nat} {u : SX} {v : SY} (I : i_Rel k u v) (hk : k + 3 ≤ 1536) : wpX_factors (fun r => wpY_factors (fun r' => r' = r ∧ i_Rel (k + 3) u v) v) u := by
  obtain ⟨n, a, hn, rfl, rfl⟩ := I
  unfold wpX_factors wpY_factors
  dsimp only
  obtain ⟨r, rX, rY⟩ := ri_loop (nI n) a 32 0 (by omega) n 0 hn
  exact ⟨_, rX _ ⟨_, rY _ ⟨rfl, n, a, hn, rfl, rfl⟩⟩⟩
end
section
/-- the place x of a text of n letters, around the end -/
def rj_w (n x : Nat) : Nat := if n ≤ x then x - n else x
theorem rj_lt {n x : Nat} (h : x < 2 * n) : rj_w n x < n := by
  unfold rj_w
  split <;> omega
theorem rj_aX (n x : Nat) (a : Nat → Int32) (hn : n ≤ 32) (hx : x < 2 * n) (post : Int32 → Prop) (h : post (nI (rj_w n x))) : wpX_around post (nI n, a) (nI x) := by
  unfold rj_w at h
  unfold wpX_around
  dsimp only
  by_cases c : n ≤ x
  · rw [if_pos c] at h
    refine br_t (nI_le c (by omega)) ?_
    rw [pk_sub c]
    exact h
  · rw [if_neg c] at h
    exact br_f (nI_ge (by omega) (by omega)) h
theorem rj_loop (n x y : Nat) (a : Nat → Int32) (hn : n ≤ 32) (hx : x < n) (hy : y < n) : ∀ d k : Nat, k + d = n → ((∀ post : Int32 → Prop, post 1 → wX_turnIsSmaller_2 post (nI x) (nI y) (nI n) a (d + 1) (nI k)) ∧ (∀ post : Int32 → Prop, post 1 → wY_turnSmaller_2 post (nI x) (nI y) (nI n) a (d + 1) (nI k))) ∨ ((∀ post : Int32 → Prop, post 0 → wX_turnIsSmaller_2 post (nI x) (nI y) (nI n) a (d + 1) (nI k)) ∧ (∀ post : Int32 → Prop, post 0 → wY_turnSmaller_2 post (nI x) (nI y) (nI n) a (d + 1) (nI k))) := by
  intro d
  induction d with
  | zero =>
    intro k hk
    exact Or.inr ⟨fun post hp => br_t (nI_le (by omega) (by omega)) hp, fun post hp => br_t (nI_le (by omega) (by omega)) hp⟩
  | succ d ih =>
    intro k hk
    have c : ¬ nI n ≤ nI k := nI_ge (by omega) (by omega)
    have l1 : rj_w n (x + k) < n := rj_lt (by omega)
    have l2 : rj_w n (y + k) < n := rj_lt (by omega)
    have i1 : vp_in (nI (rj_w n (x + k))) 32 := vp_in_nI (by omega) (by omega)
    have i2 : vp_in (nI (rj_w n (y + k))) 32 := vp_in_nI (by omega) (by omega)
    have sX : ∀ post : Int32 → Prop, ((a (nI (rj_w n (x + k))).toNatClampNeg = a (nI (rj_w n (y + k))).toNatClampNeg → wX_turnIsSmaller_2 post (nI x) (nI y) (nI n) a (d + 1) (nI (k + 1))) ∧ (¬ a (nI (rj_w n (x + k))).toNatClampNeg = a (nI (rj_w n (y + k))).toNatClampNeg → ((a (nI (rj_w n (y + k))).toNatClampNeg ≤ a (nI (rj_w n (x + k))).toNatClampNeg → post 0) ∧ (¬ a (nI (rj_w n (y + k))).toNatClampNeg ≤ a (nI (rj_w n (x + k))).toNatClampNeg → post 1)))) → wX_turnIsSmaller_2 post (nI x) (nI y) (nI n) a (d + 1 + 1) (nI k) := by
      intro post h
      refine br_f c ?_
      rw [nI_add, nI_add]
      refine rj_aX n (x + k) a hn (by omega) _ ⟨i1, nm_e ?_⟩
      refine rj_aX n (y + k) a hn (by omega) _ ⟨i2, nm_e ?_⟩
      exact ⟨fun z => nm_r (nI_1 k) (h.1 z), h.2⟩
    have s6 : ∀ post : Int32 → Prop, ((a (nI (rj_w n (x + k))).toNatClampNeg = a (nI (rj_w n (y + k))).toNatClampNeg → wY_turnSmaller_2 post (nI x) (nI y) (nI n) a (d + 1) (nI (k + 1))) ∧ (¬ a (nI (rj_w n (x + k))).toNatClampNeg = a (nI (rj_w n (y + k))).toNatClampNeg → ((a (nI (rj_w n (y + k))).toNatClampNeg ≤ a (nI (rj_w n (x + k))).toNatClampNeg → post 0) ∧ (¬ a (nI (rj_w n (y + k))).toNatClampNeg ≤ a (nI (rj_w n (x + k))).toNatClampNeg → post 1)))) → wY_turnSmaller_60 post (wY_turnSmaller_2 post (nI x) (nI y) (nI n) a (d + 1)) (nI x) (nI y) (nI k) (nI (rj_w n (x + k))) (nI (rj_w n (y + k))) (nI n) a := by
      intro post h
      exact ⟨i1, i2, fun z => nm_r (nI_1 k) (h.1 z), fun z => ⟨i1, i2, h.2 z⟩⟩
    have s3 : ∀ (post : Int32 → Prop) (z0 : Int32), wY_turnSmaller_60 post (wY_turnSmaller_2 post (nI x) (nI y) (nI n) a (d + 1)) (nI x) (nI y) (nI k) z0 (nI (rj_w n (y + k))) (nI n) a → wY_turnSmaller_34 post (wY_turnSmaller_2 post (nI x) (nI y) (nI n) a (d + 1)) (nI x) (nI y) (nI k) z0 (nI n) a := by
      intro post z0 h
      unfold rj_w at h
      unfold wY_turnSmaller_34
      rw [nI_add]
      by_cases q : n ≤ y + k
      · rw [if_pos q] at h
        refine br_t (nI_le q (by omega)) ?_
        rw [pk_sub q]
        exact h
      · rw [if_neg q] at h
        exact br_f (nI_ge (by omega) (by omega)) h
    have s2 : ∀ post : Int32 → Prop, wY_turnSmaller_34 post (wY_turnSmaller_2 post (nI x) (nI y) (nI n) a (d + 1)) (nI x) (nI y) (nI k) (nI (rj_w n (x + k))) (nI n) a → wY_turnSmaller_2 post (nI x) (nI y) (nI n) a (d + 1 + 1) (nI k) := by
      intro post h
      unfold rj_w at h
      refine br_f c ?_
      rw [nI_add]
      by_cases q : n ≤ x + k
      · rw [if_pos q] at h
        refine br_t (nI_le q (by omega)) ?_
        rw [pk_sub q]
        exact h
      · rw [if_neg q] at h
        exact br_f (nI_ge (by omega) (by omega)) h
    by_cases z : a (nI (rj_w n (x + k))).toNatClampNeg = a (nI (rj_w n (y + k))).toNatClampNeg
    · rcases ih (k + 1) (by omega) with ⟨hX, hY⟩ | ⟨hX, hY⟩
      · exact Or.inl ⟨fun post hp => sX post (br_t z (hX post hp)), fun post hp => s2 post (s3 post _ (s6 post (br_t z (hY post hp))))⟩
      · exact Or.inr ⟨fun post hp => sX post (br_t z (hX post hp)), fun post hp => s2 post (s3 post _ (s6 post (br_t z (hY post hp))))⟩
    · by_cases g : a (nI (rj_w n (y + k))).toNatClampNeg ≤ a (nI (rj_w n (x + k))).toNatClampNeg
      · exact Or.inr ⟨fun post hp => sX post (br_f z (br_t g hp)), fun post hp => s2 post (s3 post _ (s6 post (br_f z (br_t g hp))))⟩
      · exact Or.inl ⟨fun post hp => sX post (br_f z (br_f g hp)), fun post hp => s2 post (s3 post _ (s6 post (br_f z (br_f g hp))))⟩
theorem rj_out (n : Nat) (a : Nat → Int32) (hn : n ≤ 32) : ∀ d i : Nat, i + d = n → ∀ b : Nat, b < n → ∃ r : Int32, (∀ post : Int32 → Prop, post r → wX_smallestTurn_14 post (nI n) a (d + 1) (nI b) (nI i)) ∧ (∀ post : Int32 → Prop, post r → wY_smallestTurn_14 post (nI n) a (d + 1) (nI b) (nI i)) := by
  intro d
  induction d with
  | zero =>
    intro i hi b hb
    exact ⟨nI b, fun post h => br_t (nI_le (by omega) (by omega)) h, fun post h => br_t (nI_le (by omega) (by omega)) h⟩
  | succ d ih =>
    intro i hi b hb
    have h : ¬ nI n ≤ nI i := nI_ge (by omega) (by omega)
    rcases rj_loop n i b a hn (by omega) hb n 0 (by omega) with ⟨hX, hY⟩ | ⟨hX, hY⟩
    · obtain ⟨r, rX, rY⟩ := ih (i + 1) (by omega) i (by omega)
      exact ⟨r, fun post q => br_f h ⟨_, hX _ (br_f (by decide) (nm_r (nI_1 i) (rX post q)))⟩, fun post q => br_f h ⟨_, hY _ (br_f (by decide) (nm_r (nI_1 i) (rY post q)))⟩⟩
    · obtain ⟨r, rX, rY⟩ := ih (i + 1) (by omega) b hb
      exact ⟨r, fun post q => br_f h ⟨_, hX _ (br_t rfl (nm_r (nI_1 i) (rX post q)))⟩, fun post q => br_f h ⟨_, hY _ (br_t rfl (nm_r (nI_1 i) (rY post q)))⟩⟩
theorem i_vc_smallestTurn {k : Nat} {u : SX} {v : SY} (I : i_Rel k u v) (hk : k + 3 ≤ 1536) : wpX_smallestTurn (fun r => wpY_smallestTurn (fun r' => r' = r ∧ i_Rel (k + 3) u v) v) u := by
  obtain ⟨n, a, hn, rfl, rfl⟩ := I
  unfold wpX_smallestTurn wpY_smallestTurn
  dsimp only
  cases n with
  | zero => exact br_t rfl (br_t rfl ⟨rfl, 0, a, hn, rfl, rfl⟩)
  | succ n =>
    have h0 : ¬ nI (n + 1) = 0 := nI_ne0 (by omega) (by omega)
    obtain ⟨r, rX, rY⟩ := rj_out (n + 1) a hn n 1 (by omega) 0 (by omega)
    refine br_f h0 ⟨_, rX _ ?_⟩
    refine br_f h0 ⟨_, rY _ ?_⟩
    exact ⟨rfl, n + 1, a, hn, rfl, rfl⟩
end

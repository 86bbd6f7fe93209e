def pw (b : Int) : Nat → Int
  | 0 => 1
  | e + 1 => pw b e * b
def chF (n : Int) : Nat → Int
  | 0 => 1
  | d + 1 => Int.tdiv (chF n d * (n - d)) (d + 1)
def wwF (T n x : Int) : Nat → Int
  | 0 => 0
  | d + 1 => if 2 ≤ max 0 (T - 2 * d) then wwF T n x d else wwF T n x d + chF n d * pw x d * pw (10 - x) (n - d).toNat
def oddF (x s : Int) : Nat → Int
  | 0 => 1
  | k + 1 => if bit s k = 1 then oddF x s k * x else oddF x s k * (10 - x)
def tgtF (T s : Int) : Nat → Int
  | 0 => T
  | k + 1 => if bit s k = 1 then tgtF T s k - 2 else tgtF T s k
def upF (T x : Int) (n : Nat) : Nat → Int
  | 0 => 0
  | m + 1 => if 2 ≤ tgtF T m n then upF T x n m else upF T x n m + oddF x m n
/-- Euclid in n turns -/
def gcS : Nat → Int → Int → Option Int
  | 0, a, b => if b = 0 then some a else none
  | n + 1, a, b => if b = 0 then some a else gcS n b (a.tmod b)
-- the same in natural numbers
def cntN (s : Nat) : Nat → Nat
  | 0 => 0
  | k + 1 => cntN s k + s / 2 ^ k % 2
def oddN (x s : Nat) : Nat → Nat
  | 0 => 1
  | k + 1 => oddN x s k * (if s / 2 ^ k % 2 = 1 then x else 10 - x)
def upN (q x n : Nat) : Nat → Nat
  | 0 => 0
  | m + 1 => if q ≤ cntN m n then upN q x n m + oddN x m n else upN q x n m
def chN (n : Nat) : Nat → Nat
  | 0 => 1
  | d + 1 => chN n d * (n - d) / (d + 1)
def wwN (q n x : Nat) : Nat → Nat
  | 0 => 0
  | d + 1 => if q ≤ d then wwN q n x d + chN n d * x ^ d * (10 - x) ^ (n - d) else wwN q n x d
def gcN : Nat → Nat → Nat → Nat
  | 0, _, _ => 0
  | n + 1, a, b => if b = 0 then a else gcN n b (a % b)
theorem bitN : ∀ s : Nat, s < 64 → ∀ k : Nat, k < 6 → bit s k = ((s / 2 ^ k % 2 : Nat) : Int) := by decide +kernel
theorem zshl1 : ∀ n : Nat, n < 7 → zshl 1 n = ((2 ^ n : Nat) : Int) := by decide +kernel
theorem ch_eq : ∀ n : Nat, n < 7 → ∀ d : Nat, d < 8 → chF n d = (chN n d : Int) := by decide +kernel
theorem ch_r : ∀ n : Nat, n < 7 → ∀ d : Nat, d < 7 → d ≤ n → 0 ≤ chF n d * ((n : Int) - d) ∧ chF n d * ((n : Int) - d) < 100 := by decide +kernel
theorem lik_fin : ∀ q : Nat, q < 16 → ∀ n : Nat, n < 7 → ∀ x : Nat, x < 11 → upN q x n (2 ^ n) = wwN q n x (n + 1) ∧ wwN q n x (n + 1) ≤ 10 ^ n ∧ 0 < gcN 30 (wwN q n x (n + 1)) (10 ^ n) ∧ gcN 30 (wwN q n x (n + 1)) (10 ^ n) ≤ 1000000 := by decide +kernel
theorem pw_eq {b : Nat} : ∀ e : Nat, pw b e = ((b ^ e : Nat) : Int)
  | 0 => rfl
  | e + 1 => by
    show pw b e * b = _
    rw [pw_eq e, Nat.pow_succ, Int.natCast_mul]
theorem cnt_r (s : Nat) : ∀ k : Nat, cntN s k ≤ k
  | 0 => Nat.le_refl 0
  | k + 1 => by
    have := cnt_r s k
    unfold cntN
    omega
theorem odd_eq {x s n : Nat} (hs : s < 64) (hx : x ≤ 10) (hn : n ≤ 6) : ∀ k : Nat, k ≤ n → oddF x s k = (oddN x s k : Int)
  | 0, _ => rfl
  | k + 1, hk => by
    have q := odd_eq hs hx hn k (by omega)
    have b := bitN s hs k (by omega)
    unfold oddF oddN
    rw [q, b]
    by_cases e : s / 2 ^ k % 2 = 1
    · rw [if_pos e, if_pos (by omega), Int.natCast_mul]
    · rw [if_neg e, if_neg (by omega), Int.natCast_mul, show ((10 - x : Nat) : Int) = 10 - (x : Int) by omega]
theorem tgt_eq {T : Int} {s n : Nat} (hs : s < 64) (hn : n ≤ 6) : ∀ k : Nat, k ≤ n → tgtF T s k = T - 2 * (cntN s k : Int)
  | 0, _ => by show T = T - 2 * ((0 : Nat) : Int); omega
  | k + 1, hk => by
    have q := tgt_eq (T := T) hs hn k (by omega)
    have b := bitN s hs k (by omega)
    unfold tgtF cntN
    rw [q, b]
    by_cases e : s / 2 ^ k % 2 = 1
    · rw [if_pos (by omega)]; omega
    · rw [if_neg (by omega)]; omega
theorem up_eq {t x n : Nat} (hx : x ≤ 10) (hn : n ≤ 6) : ∀ m : Nat, m ≤ 64 → upF t x n m = (upN (t / 2) x n m : Int)
  | 0, _ => rfl
  | m + 1, hm => by
    have q := up_eq (t := t) hx hn m (by omega)
    have o := odd_eq (s := m) (by omega) hx hn n (by omega)
    have g := tgt_eq (T := (t : Int)) (s := m) (by omega) hn n (by omega)
    unfold upF upN
    rw [q, o, g]
    by_cases e : t / 2 ≤ cntN m n
    · rw [if_pos e, if_neg (by omega), Int.natCast_add]
    · rw [if_neg e, if_pos (by omega)]
theorem ww_eq {t x n : Nat} (hx : x ≤ 10) (hn : n ≤ 6) : ∀ d : Nat, d ≤ n + 1 → wwF t n x d = (wwN (t / 2) n x d : Int)
  | 0, _ => rfl
  | d + 1, hd => by
    have q := ww_eq (t := t) hx hn d (by omega)
    unfold wwF wwN
    rw [q]
    by_cases e : t / 2 ≤ d
    · rw [if_pos e, if_neg (by omega), ch_eq n (by omega) d (by omega), pw_eq, show (10 : Int) - (x : Int) = ((10 - x : Nat) : Int) by omega, pw_eq, show ((n : Int) - (d : Int)).toNat = n - d by omega]
      simp only [Int.natCast_add, Int.natCast_mul]
    · rw [if_neg e, if_pos (by omega)]
theorem gc_eq : ∀ (n a b : Nat), 0 < gcN n a b → gcS n a b = some (gcN n a b : Int)
  | 0, a, b, h => absurd h (by show ¬ 0 < 0; omega)
  | n + 1, a, b, h => by
    unfold gcS
    unfold gcN at h ⊢
    by_cases e : b = 0
    · rw [if_pos e, if_pos (by omega)]
    · rw [if_neg e] at h
      rw [if_neg e, if_neg (by omega), show ((a : Int).tmod (b : Int)) = ((a % b : Nat) : Int) by rw [Int.tmod_eq_emod_of_nonneg (by omega)]; rfl]
      exact gc_eq n b (a % b) h
def lkD (t n x : Nat) : Nat := gcN 30 (wwN (t / 2) n x (n + 1)) (10 ^ n)
def fLikely (σ : Sg) (i n x k : Int) : Int := if (0 ≤ i ∧ i ≤ 3) ∧ (0 ≤ n ∧ n ≤ 6) ∧ (0 ≤ x ∧ x ≤ 10) ∧ 0 ≤ k ∧ k ≤ 1 then (if bit (kH (gK σ)) i = 0 then -2 else (if k = 0 then Int.tdiv (wwN ((kT (gK σ) i).toNat / 2) n.toNat x.toNat (n.toNat + 1)) (lkD (kT (gK σ) i).toNat n.toNat x.toNat) else Int.tdiv ((10 ^ n.toNat : Nat) : Int) (lkD (kT (gK σ) i).toNat n.toNat x.toNat))) else -1
section
variable {Γ : Gm} {w : Wd}
theorem sp_power {b : Int} {e : Nat} (he : e < 100) : SpP Γ m_X6_power [vI b, vI e] w (pw b e) := by
  have key : ∀ n k : Nat, k + n = e → G Γ m_X6_power (fun v u => ∃ z, v = some (vI z) ∧ z = pw b e ∧ u = w) 0 0 4 [some (vI b), some (vI e), some (vI (pw b k)), some (vI k)] [] w := by
    intro n
    induction n with
    | zero =>
      intro k hk
      have : k = e := by omega
      subst this
      exact k_X6_power_4 (fun _ => k_X6_power_19 ⟨_, rfl, rfl, rfl⟩) (fun q => absurd q (by omega))
    | succ n ih =>
      intro k hk
      have hh := ih (k + 1) (by omega)
      have e : pw b (k + 1) = pw b k * b := rfl
      rw [Int.natCast_add, e] at hh
      exact k_X6_power_4 (fun q => absurd q (by omega)) (fun _ => k_X6_power_9 hh)
  exact i_X6_power (k_X6_power_0 (key e 0 (by omega)))
theorem sp_ways {t n x : Nat} (ht : t ≤ 30) (hn : n ≤ 6) (hx : x ≤ 10) : SpP Γ m_X6_waysToWave [vI t, vI n, vI x] w (wwF t n x (n + 1)) := by
  have key : ∀ m d : Nat, d + m = n + 1 → G Γ m_X6_waysToWave (fun v u => ∃ z, v = some (vI z) ∧ z = wwF t n x (n + 1) ∧ u = w) 0 0 8 [some (vI t), some (vI n), some (vI x), some (vI (wwF t n x d)), some (vI (chF n d)), some (vI d)] [] w := by
    intro m
    induction m with
    | zero =>
      intro d hd
      have : d = n + 1 := by omega
      subst this
      exact k_X6_waysToWave_8 (fun _ => k_X6_waysToWave_72 ⟨_, rfl, rfl, rfl⟩) (fun q => absurd q (by omega))
    | succ m ih =>
      intro d hd
      have hh := ih (d + 1) (by omega)
      have hc := ch_r n (by omega) d (by omega) (by omega)
      have e1 : chF n (d + 1) = Int.tdiv (chF n d * ((n : Int) - d)) ((d : Int) + 1) := rfl
      rw [Int.natCast_add, e1] at hh
      have p1 := sp_power (Γ := Γ) (w := w) (b := (x : Int)) (e := d) (by omega)
      have p2 := sp_power (Γ := Γ) (w := w) (b := 10 - (x : Int)) (e := n - d) (by omega)
      rw [show ((n - d : Nat) : Int) = (n : Int) - d by omega] at p2
      refine k_X6_waysToWave_8 (fun q => absurd q (by omega)) (fun _ => k_X6_waysToWave_14 (fun q => k_X6_waysToWave_52 ?_) (fun q => k_X6_waysToWave_28 p1 p2 ?_))
      · have e : wwF t n x (d + 1) = wwF t n x d := if_pos q
        rw [e] at hh
        exact hh
      · have e : wwF t n x (d + 1) = wwF t n x d + chF n d * pw x d * pw (10 - x) ((n : Int) - d).toNat := if_neg q
        rw [e, show ((n : Int) - d).toNat = n - d by omega] at hh
        exact hh
  exact i_X6_waysToWave (k_X6_waysToWave_0 (key (n + 1) 0 (by omega)))
theorem sp_gcd {a b g : Int} {n : Nat} (hn : n ≤ 99) (ha : 0 ≤ a ∧ a < 2000000) (hb : 0 ≤ b ∧ b < 2000000) (h : gcS n a b = some g) : SpP Γ m_X6_commonDivisor [vI a, vI b] w g := by
  have key : ∀ (n : Nat) (c d : Int) (j : Nat) (o : Option Value), j + n ≤ 99 → 0 ≤ c ∧ c < 2000000 → 0 ≤ d ∧ d < 2000000 → gcS n c d = some g → G Γ m_X6_commonDivisor (fun v u => ∃ z, v = some (vI z) ∧ z = g ∧ u = w) 0 0 7 [some (vI a), some (vI b), some (vI c), some (vI d), some (vI j), o] [] w := by
    intro n
    induction n with
    | zero =>
      intro c d j o hj hc hd h
      unfold gcS at h
      by_cases e : d = 0
      · rw [if_pos e] at h
        exact k_X6_commonDivisor_7 (fun q => absurd q (by omega)) (fun _ => k_X6_commonDivisor_14 (fun _ => k_X6_commonDivisor_34 ⟨_, rfl, Option.some.inj h, rfl⟩) (fun q => absurd e q))
      · rw [if_neg e] at h
        exact absurd h (by simp)
    | succ n ih =>
      intro c d j o hj hc hd h
      unfold gcS at h
      by_cases e : d = 0
      · rw [if_pos e] at h
        exact k_X6_commonDivisor_7 (fun q => absurd q (by omega)) (fun _ => k_X6_commonDivisor_14 (fun _ => k_X6_commonDivisor_34 ⟨_, rfl, Option.some.inj h, rfl⟩) (fun q => absurd e q))
      · rw [if_neg e] at h
        have hr : 0 ≤ c.tmod d ∧ c.tmod d < 2000000 := by
          rw [Int.tmod_eq_emod_of_nonneg hc.1]
          have h3 := Int.emod_nonneg c e
          have h4 := Int.emod_lt_of_pos c (show 0 < d by omega)
          omega
        have hh := ih d (c.tmod d) (j + 1) (some (vI (c.tmod d))) (by omega) hd hr h
        rw [Int.natCast_add] at hh
        exact k_X6_commonDivisor_7 (fun q => absurd q (by omega)) (fun _ => k_X6_commonDivisor_14 (fun q => absurd q e) (fun _ => k_X6_commonDivisor_18 hh))
  exact i_X6_commonDivisor (k_X6_commonDivisor_0 (key n a b 0 none (by omega) ha hb h))
theorem c_likely {σ : Sg} {i n x k : Int} (h : RC w σ) (ok : okS σ) (hi : sm i) (hn : sm n) (hx : sm x) (hk : sm k) : SpI Γ m_X6_likely [vR 0, vI i, vI n, vI x, vI k] w (CQ w (fLikely σ i n x k, σ)) := by
  obtain ⟨⟨⟨s0, s1, s54, s55, s56, s57, s58, s59, s60, s61⟩, ⟨r0, r4, r5, r6, r7, r8, r9, r10⟩, -⟩, -, -, hC, -⟩ := id h
  have sc := hC.1.1
  unfold fLikely
  by_cases h1 : 0 ≤ i ∧ i ≤ 3
  · have hi4 : 0 ≤ i ∧ i < 4 := by omega
    have hbit := bit_r ok.k.2.2.2.2.1 hi4
    have hT := ok.k.2.2.2.1 i hi4.1 hi4.2
    refine i_X6_likely (k_X6_likely_0 (sp_isWall1 h1) (fun q => absurd q (by decide)) (fun _ => ?_))
    by_cases h2 : 0 ≤ n ∧ n ≤ 6
    · refine k_X6_likely_7 (sp_within1 h2 hn (by omega) (by omega)) (fun q => absurd q (by decide)) (fun _ => ?_)
      by_cases h3 : 0 ≤ x ∧ x ≤ 10
      · refine k_X6_likely_17 (sp_within1 h3 hx (by omega) (by omega)) (fun q => absurd q (by decide)) (fun _ => ?_)
        by_cases h4 : 0 ≤ k ∧ k ≤ 1
        · rw [if_pos ⟨h1, h2, h3, h4⟩]
          refine k_X6_likely_27 (sp_within1 h4 hk (by omega) (by omega)) (fun _ => ?_) (fun q => absurd q (by decide))
          refine k_X6_likely_39 (q1 := 14) (sp_isHooked hC ok.k hi4) (fun q => ?_) (fun q => ?_)
          · rw [if_neg q]
            obtain ⟨t, ht⟩ := Int.eq_ofNat_of_zero_le hT.1
            obtain ⟨n', rfl⟩ := Int.eq_ofNat_of_zero_le h2.1
            obtain ⟨x', rfl⟩ := Int.eq_ofNat_of_zero_le h3.1
            have hf := lik_fin (t / 2) (by omega) n' (by omega) x' (by omega)
            have hw := ww_eq (t := t) (x := x') (n := n') (by omega) (by omega) (n' + 1) (by omega)
            have hp : pw 10 n' = ((10 ^ n' : Nat) : Int) := pw_eq (b := 10) n'
            have hp6 : 10 ^ n' ≤ 10 ^ 6 := Nat.pow_le_pow_right (by decide) (by omega)
            have hg := gc_eq 30 _ _ hf.2.2.1
            have hsp := sp_ways (Γ := Γ) (w := w) (t := t) (n := n') (x := x') (by omega) (by omega) (by omega)
            have hpp := sp_power (Γ := Γ) (w := w) (b := 10) (e := n') (by omega)
            rw [hw] at hsp
            rw [hp] at hpp
            have hgs := sp_gcd (Γ := Γ) (w := w) (n := 30) (by omega) ⟨by omega, by omega⟩ ⟨by omega, by omega⟩ hg
            have hti := sp_tight (Γ := Γ) hC hi4
            rw [ht] at hti ⊢
            have h0 := hf.2.2.1
            have h9 := hf.2.2.2
            simp only [Int.toNat_natCast]
            unfold lkD
            refine k_X6_likely_53 (q1 := 14) hti hsp hpp hgs (fun _ => k_X6_likely_93 (fun q2 => ?_) (fun q2 => ?_)) (fun q2 => absurd q2 (by omega))
            · rw [if_neg q2]
              exact k_X6_likely_106 ⟨_, rfl, cq_same h⟩
            · rw [if_pos q2]
              exact k_X6_likely_98 ⟨_, rfl, cq_same h⟩
          · rw [if_pos q]
            exact k_X6_likely_50 ⟨_, rfl, cq_same h⟩
        · rw [if_neg (fun q => h4 q.2.2.2)]
          exact k_X6_likely_27 (sp_within0 h4 hk (by omega) (by omega)) (fun q => absurd rfl q) (fun _ => k_X6_likely_37 ⟨_, rfl, cq_same h⟩)
      · rw [if_neg (fun q => h3 q.2.2.1)]
        exact k_X6_likely_17 (sp_within0 h3 hx (by omega) (by omega)) (fun _ => k_X6_likely_37 ⟨_, rfl, cq_same h⟩) (fun q => absurd rfl q)
    · rw [if_neg (fun q => h2 q.2.1)]
      exact k_X6_likely_7 (sp_within0 h2 hn (by omega) (by omega)) (fun _ => k_X6_likely_37 ⟨_, rfl, cq_same h⟩) (fun q => absurd rfl q)
  · rw [if_neg (fun q => h1 q.1)]
    exact i_X6_likely (k_X6_likely_0 (sp_isWall0 hi h1) (fun _ => k_X6_likely_37 ⟨_, rfl, cq_same h⟩) (fun q => absurd rfl q))
theorem m_likely {σ : Sg} {i n x k : Int} (h : RM w σ) (ok : okS σ) (hi : sm i) (hn : sm n) (hx : sm x) (hk : sm k) : SpI Γ m_X7_likely [vR 63, vI i, vI n, vI x, vI k] w (MR w (fLikely σ i n x k, σ)) := by
  obtain ⟨hM, hT, hA, hU, hE, hV⟩ := id h
  obtain ⟨⟨c0, c1, c2, c3, c4, c5, c6, c7, c8, c9, c10, c11, c12, c13, c14⟩, d1, d2, d3, d4, d5, d6, d7, d8, d9, d10, d11, d12, d13, d14⟩ := id hM.1
  unfold fLikely
  by_cases h1 : 0 ≤ i ∧ i ≤ 3
  · have hi4 : 0 ≤ i ∧ i < 4 := by omega
    have hbit := bit_r ok.k.2.2.2.2.1 hi4
    have hT := ok.k.2.2.2.1 i hi4.1 hi4.2
    refine i_X7_likely (k_X7_likely_0 (sp_in1 h1 hi (by omega) (by omega)) (fun q => absurd q (by decide)) (fun _ => ?_))
    by_cases h2 : 0 ≤ n ∧ n ≤ 6
    · refine k_X7_likely_9 (sp_in1 h2 hn (by omega) (by omega)) (fun q => absurd q (by decide)) (fun _ => ?_)
      by_cases h3 : 0 ≤ x ∧ x ≤ 10
      · refine k_X7_likely_19 (sp_in1 h3 hx (by omega) (by omega)) (fun q => absurd q (by decide)) (fun _ => ?_)
        by_cases h4 : 0 ≤ k ∧ k ≤ 1
        · rw [if_pos ⟨h1, h2, h3, h4⟩]
          refine k_X7_likely_29 (sp_in1 h4 hk (by omega) (by omega)) (fun _ => ?_) (fun q => absurd q (by decide))
          refine k_X7_likely_41 (q1 := 71) (sp_isHookedM hA ok.k hi4) (fun q => k_X7_likely_55 ?_) (fun q => ?_)
          · rw [if_neg q]
            obtain ⟨t, ht⟩ := Int.eq_ofNat_of_zero_le hT.1
            obtain ⟨n', rfl⟩ := Int.eq_ofNat_of_zero_le h2.1
            obtain ⟨x', rfl⟩ := Int.eq_ofNat_of_zero_le h3.1
            have hf := lik_fin (t / 2) (by omega) n' (by omega) x' (by omega)
            have hp6 : 10 ^ n' ≤ 10 ^ 6 := Nat.pow_le_pow_right (by decide) (by omega)
            have h26 : 2 ^ n' ≤ 2 ^ 6 := Nat.pow_le_pow_right (by decide) (by omega)
            have hg := gc_eq 30 _ _ hf.2.2.1
            have h0 := hf.2.2.1
            have h9 := hf.2.2.2
            have hz := zshl1 n' (by omega)
            have hti : wI w 71 (25 + i) = (t : Int) := by rw [hA.2.2.2.1 i hi4.1 hi4.2]; exact ht
            rw [ht]
            simp only [Int.toNat_natCast]
            unfold lkD
            -- the greatest common divisor
            have gcd : ∀ (m : Nat) (c d : Int) (o9 o10 : Option Value), 0 ≤ c ∧ c < 2000000 → 0 ≤ d ∧ d < 2000000 → gcS m c d = some ((gcN 30 (wwN (t / 2) n' x' (n' + 1)) (10 ^ n') : Nat) : Int) → G Γ m_X7_likely (fun v u => ∃ z, v = some (vI z) ∧ MR w (if k = 0 then Int.tdiv ((wwN (t / 2) n' x' (n' + 1) : Nat) : Int) ((gcN 30 (wwN (t / 2) n' x' (n' + 1)) (10 ^ n') : Nat) : Int) else Int.tdiv ((10 ^ n' : Nat) : Int) ((gcN 30 (wwN (t / 2) n' x' (n' + 1)) (10 ^ n') : Nat) : Int), σ) z u) 0 0 197 [some (vR 63), some (vI i), some (vI n'), some (vI x'), some (vI k), some (vI (wwN (t / 2) n' x' (n' + 1) : Nat)), some (vI (10 ^ n' : Nat)), some (vI c), some (vI d), o9, o10] [] w := by
              intro m
              induction m with
              | zero =>
                intro c d o9 o10 hc hd hgc
                unfold gcS at hgc
                by_cases e : d = 0
                · rw [if_pos e] at hgc
                  have hgc := Option.some.inj hgc
                  subst hgc
                  refine k_X7_likely_197 (fun _ => k_X7_likely_220 (fun q2 => ?_) (fun q2 => ?_)) (fun q2 => absurd q2 (by omega))
                  · rw [if_neg q2]; exact k_X7_likely_230 ⟨_, rfl, mr_same h⟩
                  · rw [if_pos q2]; exact k_X7_likely_225 ⟨_, rfl, mr_same h⟩
                · rw [if_neg e] at hgc
                  exact absurd hgc (by simp)
              | succ m ih =>
                intro c d o9 o10 hc hd hgc
                unfold gcS at hgc
                by_cases e : d = 0
                · rw [if_pos e] at hgc
                  have hgc := Option.some.inj hgc
                  subst hgc
                  refine k_X7_likely_197 (fun _ => k_X7_likely_220 (fun q2 => ?_) (fun q2 => ?_)) (fun q2 => absurd q2 (by omega))
                  · rw [if_neg q2]; exact k_X7_likely_230 ⟨_, rfl, mr_same h⟩
                  · rw [if_pos q2]; exact k_X7_likely_225 ⟨_, rfl, mr_same h⟩
                · rw [if_neg e] at hgc
                  have hr : 0 ≤ c.tmod d ∧ c.tmod d < 2000000 := by
                    rw [Int.tmod_eq_emod_of_nonneg hc.1]
                    have h3 := Int.emod_nonneg c e
                    have h4 := Int.emod_lt_of_pos c (show 0 < d by omega)
                    omega
                  exact k_X7_likely_197 (fun q2 => absurd q2 (by omega)) (fun _ => k_X7_likely_202 (ih d (c.tmod d) _ _ hd hr hgc))
            -- over the sets
            have sets : ∀ (m s : Nat) (o8 o9 o10 : Option Value), s + m = 2 ^ n' → G Γ m_X7_likely (fun v u => ∃ z, v = some (vI z) ∧ MR w (if k = 0 then Int.tdiv ((wwN (t / 2) n' x' (n' + 1) : Nat) : Int) ((gcN 30 (wwN (t / 2) n' x' (n' + 1)) (10 ^ n') : Nat) : Int) else Int.tdiv ((10 ^ n' : Nat) : Int) ((gcN 30 (wwN (t / 2) n' x' (n' + 1)) (10 ^ n') : Nat) : Int), σ) z u) 0 0 86 [some (vR 63), some (vI i), some (vI n'), some (vI x'), some (vI k), some (vI (upF t x' n' s)), some (vI (10 ^ n' : Nat)), some (vI s), o8, o9, o10] [] w := by
              intro m
              induction m with
              | zero =>
                intro s o8 o9 o10 hs
                have e : s = 2 ^ n' := by omega
                have hu := up_eq (t := t) (x := x') (n := n') (by omega) (by omega) s (by omega)
                rw [e, hf.1, ← e] at hu
                rw [hu]
                refine k_X7_likely_86 (fun _ => k_X7_likely_189 (gcd 30 _ _ _ _ ⟨by omega, by omega⟩ ⟨by omega, by omega⟩ hg)) (fun q2 => absurd q2 (by omega))
              | succ m ih =>
                intro s o8 o9 o10 hs
                -- over the months
                have inner : ∀ (l j : Nat), j + l = n' → G Γ m_X7_likely (fun v u => ∃ z, v = some (vI z) ∧ MR w (if k = 0 then Int.tdiv ((wwN (t / 2) n' x' (n' + 1) : Nat) : Int) ((gcN 30 (wwN (t / 2) n' x' (n' + 1)) (10 ^ n') : Nat) : Int) else Int.tdiv ((10 ^ n' : Nat) : Int) ((gcN 30 (wwN (t / 2) n' x' (n' + 1)) (10 ^ n') : Nat) : Int), σ) z u) 0 0 111 [some (vR 63), some (vI i), some (vI n'), some (vI x'), some (vI k), some (vI (upF t x' n' s)), some (vI (10 ^ n' : Nat)), some (vI s), some (vI (oddF x' s j)), some (vI (tgtF t s j)), some (vI j)] [] w := by
                  intro l
                  induction l with
                  | zero =>
                    intro j hj
                    have : j = n' := by omega
                    subst this
                    have g := tgt_eq (T := (t : Int)) (s := s) (n := j) (by omega) (by omega) j (by omega)
                    have cb := cnt_r s j
                    have hh := fun o8 o9 o10 => ih (s + 1) o8 o9 o10 (by omega)
                    simp only [Int.natCast_add] at hh
                    refine k_X7_likely_111 (fun _ => k_X7_likely_166 (fun q2 => k_X7_likely_179 ?_) (fun q2 => k_X7_likely_174 ?_)) (fun q2 => absurd q2 (by omega))
                    · have e : upF t x' j (s + 1) = upF t x' j s := if_pos q2
                      rw [e] at hh
                      rw [Int.add_zero]
                      exact hh _ _ _
                    · have e : upF t x' j (s + 1) = upF t x' j s + oddF x' s j := if_neg q2
                      rw [e] at hh
                      exact hh _ _ _
                  | succ l ihl =>
                    intro j hj
                    have hh := ihl (j + 1) (by omega)
                    rw [Int.natCast_add] at hh
                    have hb := bitN s (by omega) j (by omega)
                    have hha := sp_has (Γ := Γ) (w := w) (s := (s : Int)) (i := (j : Int))
                    refine k_X7_likely_111 (fun q2 => absurd q2 (by omega)) (fun _ => k_X7_likely_117 hha (fun q2 => k_X7_likely_133 hha (fun q3 => k_X7_likely_156 ?_) (fun q3 => absurd q2 q3)) (fun q2 => k_X7_likely_129 hha (fun q3 => absurd q3 q2) (fun q3 => k_X7_likely_152 ?_)))
                    · have e0 : ¬ bit s j = 1 := fun q4 => by rw [if_pos q4] at q2; exact absurd q2 (by decide)
                      have e1 : oddF x' s (j + 1) = oddF x' s j * (10 - x') := if_neg e0
                      have e2 : tgtF t s (j + 1) = tgtF t s j := if_neg e0
                      rw [e1, e2] at hh
                      rw [Int.sub_zero]
                      exact hh
                    · have e0 : bit s j = 1 := by
                        by_cases q4 : bit s j = 1
                        · exact q4
                        · rw [if_neg q4] at q2; exact absurd rfl q2
                      have e1 : oddF x' s (j + 1) = oddF x' s j * x' := if_pos e0
                      have e2 : tgtF t s (j + 1) = tgtF t s j - 2 := if_pos e0
                      rw [e1, e2] at hh
                      exact hh
                refine k_X7_likely_86 (fun q2 => absurd q2 (by omega)) (fun _ => k_X7_likely_94 (q1 := 71) (n2 := 32) ?_)
                rw [hti]
                exact inner n' 0 (by omega)
            have down : ∀ m j : Nat, j + m = n' → G Γ m_X7_likely (fun v u => ∃ z, v = some (vI z) ∧ MR w (if k = 0 then Int.tdiv ((wwN (t / 2) n' x' (n' + 1) : Nat) : Int) ((gcN 30 (wwN (t / 2) n' x' (n' + 1)) (10 ^ n') : Nat) : Int) else Int.tdiv ((10 ^ n' : Nat) : Int) ((gcN 30 (wwN (t / 2) n' x' (n' + 1)) (10 ^ n') : Nat) : Int), σ) z u) 0 0 64 [some (vR 63), some (vI i), some (vI n'), some (vI x'), some (vI k), some (vI 0), some (vI (10 ^ j : Nat)), some (vI j), none, none, none] [] w := by
              intro m
              induction m with
              | zero =>
                intro j hj
                have : j = n' := by omega
                subst this
                exact k_X7_likely_64 (fun _ => k_X7_likely_83 (sets (2 ^ j) 0 _ _ _ (by omega))) (fun q2 => absurd q2 (by omega))
              | succ m ih =>
                intro j hj
                have hh := ih (j + 1) (by omega)
                rw [Int.natCast_add, Nat.pow_succ, Int.natCast_mul] at hh
                exact k_X7_likely_64 (fun q2 => absurd q2 (by omega)) (fun _ => k_X7_likely_70 hh)
            exact down n' 0 (by omega)
          · rw [if_pos q]
            exact k_X7_likely_52 ⟨_, rfl, mr_same h⟩
        · rw [if_neg (fun q => h4 q.2.2.2)]
          exact k_X7_likely_29 (sp_in0 h4 hk (by omega) (by omega)) (fun q => absurd rfl q) (fun _ => k_X7_likely_39 ⟨_, rfl, mr_same h⟩)
      · rw [if_neg (fun q => h3 q.2.2.1)]
        exact k_X7_likely_19 (sp_in0 h3 hx (by omega) (by omega)) (fun _ => k_X7_likely_39 ⟨_, rfl, mr_same h⟩) (fun q => absurd rfl q)
    · rw [if_neg (fun q => h2 q.2.1)]
      exact k_X7_likely_9 (sp_in0 h2 hn (by omega) (by omega)) (fun _ => k_X7_likely_39 ⟨_, rfl, mr_same h⟩) (fun q => absurd rfl q)
  · rw [if_neg (fun q => h1 q.1)]
    exact i_X7_likely (k_X7_likely_0 (sp_in0 h1 hi (by omega) (by omega)) (fun _ => k_X7_likely_39 ⟨_, rfl, mr_same h⟩) (fun q => absurd rfl q))
end

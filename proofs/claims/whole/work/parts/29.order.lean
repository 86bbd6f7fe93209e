/-- the walls still free, as a set of four -/
def frS (κ : Kp) : Int := zand 15 (zxor (zor (kH κ) (kN κ)) (-1))
/-- the k-th wall of a code of n -/
def wlN (n c k : Nat) : Nat := c / 4 ^ (n - 1 - k) % 4
/-- whether a code names free walls only, each once, as the one side asks -/
def vaA (F : Int) (n c : Nat) : Int → Nat → Nat → Int
  | _, _, 0 => 1
  | m, k, l + 1 => if bit F (wlN n c k) = 0 then 0 else if bit m (wlN n c k) = 1 then 0 else vaA F n c (zor m (zshl 1 (wlN n c k))) (k + 1) l
/-- and as the other: all that are named -/
def meB (n c : Nat) : Nat → Int
  | 0 => 0
  | k + 1 => zor (meB n c k) (zshl 1 (wlN n c k))
theorem ord_fin : ∀ F : Nat, F < 16 → ∀ c : Nat, c < 4 ^ (bcn F).toNat → (vaA F (bcn F).toNat c 0 0 (bcn F).toNat = 1 ∧ meB (bcn F).toNat c (bcn F).toNat = F) ∨ (vaA F (bcn F).toNat c 0 0 (bcn F).toNat = 0 ∧ meB (bcn F).toNat c (bcn F).toNat ≠ F) := by decide +kernel
theorem wl_fin : ∀ n : Nat, n < 5 → ∀ c : Nat, c < 4 ^ n → ∀ k : Nat, k < n → zand (zshr c (2 * (((n : Int) - 1) - k))) 3 = wlN n c k := by decide +kernel
theorem fr_fin1 : ∀ h : Nat, h < 16 → ∀ t : Nat, t < 16 → 0 ≤ zand 15 (zxor (zor h t) (-1)) ∧ zand 15 (zxor (zor h t) (-1)) < 16 := by decide +kernel
theorem fr_fin2 : ∀ h : Nat, h < 16 → ∀ t : Nat, t < 16 → ∀ i : Nat, i < 4 → bit (zand 15 (zxor (zor h t) (-1))) i = if bit h i = 0 then (if bit t i = 0 then 1 else 0) else 0 := by decide +kernel
theorem shl_fin : ∀ n : Nat, n < 5 → zshl 1 (2 * (n : Int)) = ((4 ^ n : Nat) : Int) := by decide +kernel
theorem bcn4 : ∀ F : Nat, F < 16 → bcn F = bit F 0 + bit F 1 + bit F 2 + bit F 3 ∧ 0 ≤ bcn F ∧ bcn F ≤ 4 := by decide +kernel
/-- how tight the next one must get -/
def wtF (κ : Kp) : Int := if kH κ = 0 then 2 else 4
/-- how many kicks a code asks, or -4 -/
def kiF (ρ : Rm) (n c : Nat) : Kp → Int → Nat → Nat → Int
  | _, a, _, 0 => a
  | κ, a, k, l + 1 => if lk ρ κ (wlN n c k) (wtF κ) = -4 then -4 else kiF ρ n c (kick ρ κ (wlN n c k) (lk ρ κ (wlN n c k) (wtF κ))) (a + lk ρ κ (wlN n c k) (wtF κ)) (k + 1) l
def nF (κ : Kp) : Nat := (bcn (frS κ)).toNat
def ki (ρ : Rm) (κ : Kp) (c : Nat) : Int := if vaA (frS κ) (nF κ) c 0 0 (nF κ) = 1 then kiF ρ (nF κ) c κ 0 0 (nF κ) else -4
/-- the best of the first m codes -/
def boF (ρ : Rm) (κ : Kp) (c0 : Int) : Nat → Int × Int
  | 0 => (-4, c0)
  | m + 1 => if ki ρ κ m = -4 then boF ρ κ c0 m else if (boF ρ κ c0 m).1 = -4 ∨ ki ρ κ m < (boF ρ κ c0 m).1 then (ki ρ κ m, m) else boF ρ κ c0 m
def boK (ρ : Rm) (κ : Kp) : Int × Int := boF ρ κ 0 (4 ^ nF κ)
def fOrder (σ : Sg) (k : Int) : Int := if -1 ≤ k ∧ k ≤ 3 then (if (boK (gR σ) (gK σ)).1 = -4 then -4 else if k = -1 then (boK (gR σ) (gK σ)).1 else if k < nF (gK σ) then wlN (nF (gK σ)) (boK (gR σ) (gK σ)).2.toNat k.toNat else -4) else -1
section
variable {Γ : Gm} {w : Wd}
theorem frS_r {ρ : Rm} {κ : Kp} (ok : okK ρ κ) : (0 ≤ frS κ ∧ frS κ < 16) ∧ (∀ i : Int, 0 ≤ i → i < 4 → (bit (frS κ) i = 1 ∧ freeK κ i) ∨ (bit (frS κ) i = 0 ∧ ¬ freeK κ i)) ∧ nF κ ≤ 4 ∧ bcn (frS κ) = nF κ := by
  have h1 := ok.2.2.2.2.1
  have h2 := ok.2.2.2.2.2.1
  have h := fr_fin1 (kH κ).toNat (by omega) (kN κ).toNat (by omega)
  have g := fr_fin2 (kH κ).toNat (by omega) (kN κ).toNat (by omega)
  rw [show (((kH κ).toNat : Nat) : Int) = kH κ by omega, show (((kN κ).toNat : Nat) : Int) = kN κ by omega] at h g
  have h3 : 0 ≤ frS κ ∧ frS κ < 16 := h
  have h4 := bcn4 (frS κ).toNat (by omega)
  rw [show (((frS κ).toNat : Nat) : Int) = frS κ by omega] at h4
  refine ⟨h3, fun i a b => ?_, by unfold nF; omega, by unfold nF; omega⟩
  have h5 := g i.toNat (by omega)
  rw [show ((i.toNat : Nat) : Int) = i by omega] at h5
  have h6 : bit (frS κ) i = if bit (kH κ) i = 0 then (if bit (kN κ) i = 0 then 1 else 0) else 0 := h5
  by_cases q1 : bit (kH κ) i = 0
  · by_cases q2 : bit (kN κ) i = 0
    · rw [if_pos q1, if_pos q2] at h6; exact Or.inl ⟨h6, q1, q2⟩
    · rw [if_pos q1, if_neg q2] at h6; exact Or.inr ⟨h6, fun q => q2 q.2⟩
  · rw [if_neg q1] at h6; exact Or.inr ⟨h6, fun q => q1 q.1⟩
theorem wl_lt {n c k : Nat} : wlN n c k < 4 := Nat.mod_lt _ (by decide)
theorem lk_r {ρ : Rm} {κ : Kp} {i t : Int} : lk ρ κ i t = -4 ∨ (0 ≤ lk ρ κ i t ∧ lk ρ κ i t ≤ 20) := by
  have : ∀ (n : Nat) (f : Int), 0 ≤ f → f + n = 21 → lkF ρ κ i t f n = -4 ∨ (0 ≤ lkF ρ κ i t f n ∧ lkF ρ κ i t f n ≤ 20) := by
    intro n
    induction n with
    | zero => intro f _ _; exact Or.inl rfl
    | succ n ih =>
      intro f h0 h1
      unfold lkF
      split
      · right; omega
      · exact ih (f + 1) (by omega) (by omega)
  exact this 21 0 (by omega) (by omega)
theorem kiF_r {ρ : Rm} {n c : Nat} : ∀ (l k : Nat) (κ : Kp) (a : Int), 0 ≤ a → kiF ρ n c κ a k l = -4 ∨ (0 ≤ kiF ρ n c κ a k l ∧ kiF ρ n c κ a k l ≤ a + 20 * l)
  | 0, k, κ, a, h => Or.inr ⟨h, by show a ≤ _; omega⟩
  | l + 1, k, κ, a, h => by
    unfold kiF
    have hl := lk_r (ρ := ρ) (κ := κ) (i := (wlN n c k : Int)) (t := wtF κ)
    split
    · exact Or.inl rfl
    · rename_i h1
      have := kiF_r (ρ := ρ) (n := n) (c := c) l (k + 1) (kick ρ κ (wlN n c k) (lk ρ κ (wlN n c k) (wtF κ))) (a + lk ρ κ (wlN n c k) (wtF κ)) (by omega)
      rcases this with h2 | h2
      · exact Or.inl h2
      · exact Or.inr ⟨h2.1, by omega⟩
theorem sp_wallIn {n c k : Nat} (s61 : sh w 61 = some (.inr 2)) (e0 : wI w 61 0 = n) (hn : n < 5) (hc : c < 4 ^ n) (hk : k < n) : SpP Γ m_X2_wallIn [vR 61, vI c, vI k] w (wlN n c k) := by
  refine i_X2_wallIn (k_X2_wallIn_0 ⟨_, rfl, ?_, rfl⟩)
  rw [e0]
  exact wl_fin n hn c hc k hk
/-- the class's object of orders: what it stands at -/
theorem sp_isOrder {κ : Kp} {ρ : Rm} {c : Nat} (s61 : sh w 61 = some (.inr 2)) (hC : CarC w 14 ρ κ) (ok : okK ρ κ) (e0 : wI w 61 0 = nF κ) (hc : c < 4 ^ nF κ) : SpP Γ m_X2_isOrder [vR 61, vR 14, vI c] w (vaA (frS κ) (nF κ) c 0 0 (nF κ)) := by
  have hf := frS_r ok
  have sc := hC.1.1
  have key : ∀ (l k : Nat) (m : Int) (o : Option Value), k + l = nF κ → 0 ≤ m ∧ m < 16 → G Γ m_X2_isOrder (fun v u => ∃ z, v = some (vI z) ∧ z = vaA (frS κ) (nF κ) c m k l ∧ u = w) 0 0 5 [some (vR 61), some (vR 14), some (vI c), some (vI m), some (vI k), o] [] w := by
    intro l
    induction l with
    | zero =>
      intro k m o hk hm
      exact k_X2_isOrder_5 (fun _ => k_X2_isOrder_57 ⟨_, rfl, rfl, rfl⟩) (fun q => absurd q (by omega))
    | succ l ih =>
      intro k m o hk hm
      have hw := wl_lt (n := nF κ) (c := c) (k := k)
      have hfw := hf.2.1 (wlN (nF κ) c k) (by omega) (by omega)
      have hwi := sp_wallIn (Γ := Γ) s61 e0 (by omega) hc (show k < nF κ by omega)
      rcases hfw with hfw | hfw
      · have hb := bit_r hm (i := (wlN (nF κ) c k : Int)) (by omega)
        have hor := (bit01 m (r16 hm) _ (r4 ⟨by omega, by omega⟩ : ((wlN (nF κ) c k : Nat) : Int) ∈ _)).2.1
        refine k_X2_isOrder_5 (fun q => absurd q (by omega)) (fun _ => k_X2_isOrder_14 (z1 := wlN (nF κ) c k) hwi (sp_isFree1 hC ok (by omega) hfw.2) (fun q => absurd q (by decide)) (fun _ => k_X2_isOrder_32 (fun q => k_X2_isOrder_44 ?_) (fun q => k_X2_isOrder_42 ⟨_, rfl, ?_, rfl⟩)))
        · have e : vaA (frS κ) (nF κ) c m k (l + 1) = vaA (frS κ) (nF κ) c (zor m (zshl 1 (wlN (nF κ) c k))) (k + 1) l := (if_neg (by omega)).trans (if_neg q)
          rw [e]
          have hh := ih (k + 1) (zor m (zshl 1 (wlN (nF κ) c k))) (some (vI (wlN (nF κ) c k))) (by omega) hor
          rw [Int.natCast_add] at hh
          exact hh
        · exact ((if_neg (by omega)).trans (if_pos q)).symm
      · refine k_X2_isOrder_5 (fun q => absurd q (by omega)) (fun _ => k_X2_isOrder_14 (z1 := wlN (nF κ) c k) hwi (sp_isFree0 hC ok (by omega) hfw.2) (fun q => k_X2_isOrder_42 ⟨_, rfl, ?_, rfl⟩) (fun q => absurd rfl q))
        exact (if_pos hfw.1).symm
  exact i_X2_isOrder (k_X2_isOrder_0 (key (nF κ) 0 0 none (by omega) (by omega)))
theorem sp_kicksOf {κ : Kp} {ρ : Rm} {c rp : Nat} (s61 : sh w 61 = some (.inr 2)) (hR : RoomC w rp ρ) (hrp : rp = 2 ∨ rp = 8) (hC : CarC w 14 ρ κ) (c17 : CarS w 17) (okr : okR ρ) (ok : okK ρ κ) (e0 : wI w 61 0 = nF κ) (hc : c < 4 ^ nF κ) : SpI Γ m_X2_kicksOf [vR 61, vR rp, vR 14, vR 17, vI c] w (fun z u => z = kiF ρ (nF κ) c κ 0 0 (nF κ) ∧ Fr (Pc3 17) w u) := by
  have hf := frS_r ok
  have s17 := c17.1
  refine i_X2_kicksOf (k_X2_kicksOf_0 (sp_copyFrom c17 hC okr ok (by omega)) (fun u hu => k_X2_kicksOf_5 ?_))
  have key : ∀ (l k : Nat) (κ2 : Kp) (a : Int) (o7 o8 o9 : Option Value) (v : Wd), k + l = nF κ → okK ρ κ2 → CarC v 17 ρ κ2 → Fr (Pc3 17) w v → (0 ≤ a ∧ a ≤ 20 * k) → G Γ m_X2_kicksOf (fun v u => ∃ z, v = some (vI z) ∧ z = kiF ρ (nF κ) c κ2 a k l ∧ Fr (Pc3 17) w u) 0 0 11 [some (vR 61), some (vR rp), some (vR 14), some (vR 17), some (vI c), some (vI a), some (vI k), o7, o8, o9] [] v := by
    intro l
    induction l with
    | zero =>
      intro k κ2 a o7 o8 o9 v hk ok2 hCv hF ha
      have s61v : sh v 61 = some (.inr 2) := by rw [hF.sh]; exact s61
      have e0v : wI v 61 0 = nF κ := by rw [hF.2.1 61 (fun q => by unfold Pc3 at q; omega)]; exact e0
      exact k_X2_kicksOf_11 (fun _ => k_X2_kicksOf_88 ⟨_, rfl, rfl, hF⟩) (fun q => absurd q (by omega))
    | succ l ih =>
      intro k κ2 a o7 o8 o9 v hk ok2 hCv hF ha
      have s61v : sh v 61 = some (.inr 2) := by rw [hF.sh]; exact s61
      have e0v : wI v 61 0 = nF κ := by rw [hF.2.1 61 (fun q => by unfold Pc3 at q; omega)]; exact e0
      have s17v := hCv.1.1
      have hRv := hR.fr hF (fun a a1 a2 => by unfold Pc3; rcases hrp with q | q <;> omega)
      have hw := wl_lt (n := nF κ) (c := c) (k := k)
      have hwi := sp_wallIn (Γ := Γ) s61v e0v (by omega) hc (show k < nF κ by omega)
      have e5 : wI v 17 5 = kH κ2 := hCv.2.2.2.2.1
      have hlr := lk_r (ρ := ρ) (κ := κ2) (i := (wlN (nF κ) c k : Int)) (t := wtF κ2)
      have h5 := ok2.2.2.2.2.1
      have go : ¬ lk ρ κ2 (wlN (nF κ) c k) (wtF κ2) = -4 → ∀ o8, G Γ m_X2_kicksOf (fun v u => ∃ z, v = some (vI z) ∧ z = kiF ρ (nF κ) c κ2 a k (l + 1) ∧ Fr (Pc3 17) w u) 0 0 65 [some (vR 61), some (vR rp), some (vR 14), some (vR 17), some (vI c), some (vI a), some (vI k), some (vI (wlN (nF κ) c k)), o8, some (vI (lk ρ κ2 (wlN (nF κ) c k) (wtF κ2)))] [] v := by
        intro hn o8
        refine k_X2_kicksOf_65 (sp_hookOn hCv hRv okr ok2 (by omega) (by omega)) (fun z x hx => k_X2_kicksOf_74 ?_)
        have e : kiF ρ (nF κ) c κ2 a k (l + 1) = kiF ρ (nF κ) c (kick ρ κ2 (wlN (nF κ) c k) (lk ρ κ2 (wlN (nF κ) c k) (wtF κ2))) (a + lk ρ κ2 (wlN (nF κ) c k) (wtF κ2)) (k + 1) l := if_neg hn
        rw [e]
        have hh := ih (k + 1) _ (a + lk ρ κ2 (wlN (nF κ) c k) (wtF κ2)) (some (vI (wlN (nF κ) c k))) o8 (some (vI (lk ρ κ2 (wlN (nF κ) c k) (wtF κ2)))) x (by omega) (kick_ok okr ok2 (by omega) (by omega)) hx.2.1 (hF.trans hx.2.2) (by omega)
        rw [Int.natCast_add] at hh
        exact hh
      have no : lk ρ κ2 (wlN (nF κ) c k) (wtF κ2) = -4 → kiF ρ (nF κ) c κ2 a k (l + 1) = -4 := fun q => if_pos q
      refine k_X2_kicksOf_11 (fun q => absurd q (by omega)) (fun _ => k_X2_kicksOf_20 hwi (fun q => ?_) (fun q => ?_))
      · have ew : wtF κ2 = 4 := if_neg (by omega)
        rw [ew] at go no hlr
        exact k_X2_kicksOf_41 (sp_leastKick hCv hRv okr ok2 (by omega) (by omega)) (fun q2 => go q2 _) (fun q2 => k_X2_kicksOf_62 ⟨_, rfl, (no q2).symm, hF⟩)
      · have ew : wtF κ2 = 2 := if_pos (by omega)
        rw [ew] at go no hlr
        exact k_X2_kicksOf_37 (sp_leastKick hCv hRv okr ok2 (by omega) (by omega)) (fun q2 => go q2 _) (fun q2 => k_X2_kicksOf_62 ⟨_, rfl, (no q2).symm, hF⟩)
  exact key (nF κ) 0 κ 0 none none none u (by omega) ok hu.1 hu.2 (by omega)
def Po (a : Nat) : Prop := a = 61 ∨ Pc3 17 a
theorem ki_r {ρ : Rm} {κ : Kp} {c : Nat} : ki ρ κ c = -4 ∨ (0 ≤ ki ρ κ c ∧ ki ρ κ c ≤ 20 * nF κ) := by
  unfold ki
  split
  · have := kiF_r (ρ := ρ) (n := nF κ) (c := c) (nF κ) 0 κ 0 (by omega)
    rcases this with h | h
    · exact Or.inl h
    · exact Or.inr ⟨h.1, by omega⟩
  · exact Or.inl rfl
theorem bo_r {ρ : Rm} {κ : Kp} {c0 : Int} : ∀ m : Nat, ((boF ρ κ c0 m).1 = -4 ∧ (boF ρ κ c0 m).2 = c0) ∨ ((0 ≤ (boF ρ κ c0 m).1 ∧ (boF ρ κ c0 m).1 ≤ 20 * nF κ) ∧ 0 ≤ (boF ρ κ c0 m).2 ∧ (boF ρ κ c0 m).2 < m)
  | 0 => Or.inl ⟨rfl, rfl⟩
  | m + 1 => by
    have q := bo_r (ρ := ρ) (κ := κ) (c0 := c0) m
    have k := ki_r (ρ := ρ) (κ := κ) (c := m)
    unfold boF
    by_cases h1 : ki ρ κ m = -4
    · rw [if_pos h1]
      rcases q with q | q
      · exact Or.inl q
      · right; omega
    · rw [if_neg h1]
      by_cases h2 : (boF ρ κ c0 m).1 = -4 ∨ ki ρ κ m < (boF ρ κ c0 m).1
      · rw [if_pos h2]
        right
        refine ⟨?_, by show (0 : Int) ≤ (m : Int); omega, by show (m : Int) < ((m + 1 : Nat) : Int); omega⟩
        show 0 ≤ ki ρ κ m ∧ ki ρ κ m ≤ _
        omega
      · rw [if_neg h2]
        rcases q with q | q
        · exact Or.inl q
        · right; omega
theorem bo_c0 {ρ : Rm} {κ : Kp} {c0 : Int} : ∀ m : Nat, (boF ρ κ c0 m).1 = (boF ρ κ 0 m).1 ∧ ((boF ρ κ 0 m).1 ≠ -4 → (boF ρ κ c0 m).2 = (boF ρ κ 0 m).2)
  | 0 => ⟨rfl, fun h => absurd rfl h⟩
  | m + 1 => by
    have q := bo_c0 (ρ := ρ) (κ := κ) (c0 := c0) m
    unfold boF
    by_cases h1 : ki ρ κ m = -4
    · rw [if_pos h1, if_pos h1]; exact q
    · rw [if_neg h1, if_neg h1, q.1]
      by_cases h2 : (boF ρ κ 0 m).1 = -4 ∨ ki ρ κ m < (boF ρ κ 0 m).1
      · rw [if_pos h2, if_pos h2]; exact ⟨rfl, fun _ => rfl⟩
      · rw [if_neg h2, if_neg h2]; exact q
theorem bit_sum {κ : Kp} {ρ : Rm} (ok : okK ρ κ) : (nF κ : Int) = bit (frS κ) 0 + bit (frS κ) 1 + bit (frS κ) 2 + bit (frS κ) 3 := (frS_r ok).2.2.2.symm
def cnF (κ : Kp) : Nat → Int
  | 0 => 0
  | k + 1 => if bit (frS κ) k = 1 then cnF κ k + 1 else cnF κ k
theorem cn_eq {κ : Kp} {ρ : Rm} (ok : okK ρ κ) : cnF κ 4 = nF κ := by
  have h := bit_sum ok
  have h0 := bit_r (frS_r ok).1 (i := 0) (by omega)
  have h1 := bit_r (frS_r ok).1 (i := 1) (by omega)
  have h2 := bit_r (frS_r ok).1 (i := 2) (by omega)
  have h3 := bit_r (frS_r ok).1 (i := 3) (by omega)
  show (if bit (frS κ) 3 = 1 then (if bit (frS κ) 2 = 1 then (if bit (frS κ) 1 = 1 then (if bit (frS κ) 0 = 1 then (0 : Int) + 1 else 0) + 1 else (if bit (frS κ) 0 = 1 then (0 : Int) + 1 else 0)) + 1 else (if bit (frS κ) 1 = 1 then (if bit (frS κ) 0 = 1 then (0 : Int) + 1 else 0) + 1 else (if bit (frS κ) 0 = 1 then (0 : Int) + 1 else 0))) + 1 else (if bit (frS κ) 2 = 1 then (if bit (frS κ) 1 = 1 then (if bit (frS κ) 0 = 1 then (0 : Int) + 1 else 0) + 1 else (if bit (frS κ) 0 = 1 then (0 : Int) + 1 else 0)) + 1 else (if bit (frS κ) 1 = 1 then (if bit (frS κ) 0 = 1 then (0 : Int) + 1 else 0) + 1 else (if bit (frS κ) 0 = 1 then (0 : Int) + 1 else 0)))) = _
  rcases h0 with h0 | h0 <;> rcases h1 with h1 | h1 <;> rcases h2 with h2 | h2 <;> rcases h3 with h3 | h3 <;> rw [h0, h1, h2, h3] at h ⊢ <;> rw [h] <;> rfl
theorem sp_orders {κ : Kp} {ρ : Rm} {rp : Nat} (s61 : sh w 61 = some (.inr 2)) (hR : RoomC w rp ρ) (hrp : rp = 2 ∨ rp = 8) (hC : CarC w 14 ρ κ) (c17 : CarS w 17) (okr : okR ρ) (ok : okK ρ κ) : SpV Γ m_X2_make [vR 61, vR rp, vR 14, vR 17] w (fun u => Fr Po w u ∧ wI u 61 0 = nF κ ∧ wI u 61 2 = (boK ρ κ).1 ∧ ((boK ρ κ).1 ≠ -4 → wI u 61 1 = (boK ρ κ).2)) := by
  have hf := frS_r ok
  have sc := hC.1.1
  have hn4 : nF κ ≤ 4 := hf.2.2.1
  have hz := shl_fin (nF κ) (by omega)
  have h44 : 4 ^ nF κ ≤ 4 ^ 4 := Nat.pow_le_pow_right (by decide) (by omega)
  have frP : ∀ u : Wd, Fr Po w u → sh u 61 = some (.inr 2) ∧ RoomC u rp ρ ∧ CarC u 14 ρ κ ∧ CarS u 17 := fun u hF =>
    ⟨by rw [hF.sh]; exact s61, hR.fr hF (fun a a1 a2 => by unfold Po Pc3; rcases hrp with q | q <;> omega), hC.fr hF (fun a a1 a2 => by unfold Po Pc3; omega), c17.fr hF⟩
  -- over the codes
  have codes : ∀ (l m : Nat) (c0 : Int) (o : Option Value) (u : Wd), m + l = 4 ^ nF κ → Fr Po w u → wI u 61 0 = nF κ → wI u 61 2 = (boF ρ κ c0 m).1 → wI u 61 1 = (boF ρ κ c0 m).2 → G Γ m_X2_make (fun v u => v = none ∧ Fr Po w u ∧ wI u 61 0 = nF κ ∧ wI u 61 2 = (boK ρ κ).1 ∧ ((boK ρ κ).1 ≠ -4 → wI u 61 1 = (boK ρ κ).2)) 0 0 52 [some (vR 61), some (vR rp), some (vR 14), some (vR 17), some (vI m), o] [] u := by
    intro l
    induction l with
    | zero =>
      intro m c0 o u hm hF e0 e2 e1
      obtain ⟨s61u, hRu, hCu, c17u⟩ := frP u hF
      have : m = 4 ^ nF κ := by omega
      have hb := bo_c0 (ρ := ρ) (κ := κ) (c0 := c0) m
      refine k_X2_make_52 (fun _ => k_X2_make_134 ⟨rfl, hF, e0, ?_, fun q => ?_⟩) (fun q => absurd q (by rw [e0, hz]; omega))
      · rw [e2, hb.1, this]; rfl
      · have q' : (boF ρ κ 0 m).1 ≠ -4 := by rw [this]; exact q
        rw [e1, hb.2 q', this]; rfl
    | succ l ih =>
      intro m c0 o u hm hF e0 e2 e1
      obtain ⟨s61u, hRu, hCu, c17u⟩ := frP u hF
      have scu := hCu.1.1
      have hmc : m < 4 ^ nF κ := by omega
      have hv := ord_fin (frS κ).toNat (by omega) m
      rw [show (((frS κ).toNat : Nat) : Int) = frS κ by omega] at hv
      have hv : (vaA (frS κ) (nF κ) m 0 0 (nF κ) = 1 ∧ _) ∨ (vaA (frS κ) (nF κ) m 0 0 (nF κ) = 0 ∧ _) := hv hmc
      have hkr := ki_r (ρ := ρ) (κ := κ) (c := m)
      have hbo := bo_r (ρ := ρ) (κ := κ) (c0 := c0) m
      refine k_X2_make_52 (fun q => absurd q (by rw [e0, hz]; omega)) (fun _ => k_X2_make_65 (sp_isOrder s61u hCu ok e0 hmc) (fun q => k_X2_make_87 ?_) (fun q => k_X2_make_75 (sp_kicksOf s61u hRu hrp hCu c17u okr ok e0 hmc) (fun z x hx => ?_)))
      · have ek : ki ρ κ m = -4 := if_neg (by omega)
        have eb : boF ρ κ c0 (m + 1) = boF ρ κ c0 m := if_pos ek
        have hh := ih (m + 1) c0 (some (vI (-4))) u (by omega) hF e0 (by rw [eb]; exact e2) (by rw [eb]; exact e1)
        rw [Int.natCast_add] at hh
        exact hh
      · obtain ⟨rfl, hFx⟩ := hx
        have ek : ki ρ κ m = kiF ρ (nF κ) m κ 0 0 (nF κ) := if_pos (by omega)
        rw [← ek]
        have hF2 : Fr Po w x := hF.trans (hFx.mono (fun a ha => Or.inr ha))
        obtain ⟨s61x, hRx, hCx, c17x⟩ := frP x hF2
        have n61 : ¬ Pc3 17 61 := fun q => by unfold Pc3 at q; omega
        have f0 : wI x 61 0 = nF κ := by rw [hFx.2.1 61 n61]; exact e0
        have f2 : wI x 61 2 = (boF ρ κ c0 m).1 := by rw [hFx.2.1 61 n61]; exact e2
        have f1 : wI x 61 1 = (boF ρ κ c0 m).2 := by rw [hFx.2.1 61 n61]; exact e1
        have no : ∀ o, boF ρ κ c0 (m + 1) = boF ρ κ c0 m → G Γ m_X2_make (fun v u => v = none ∧ Fr Po w u ∧ wI u 61 0 = nF κ ∧ wI u 61 2 = (boK ρ κ).1 ∧ ((boK ρ κ).1 ≠ -4 → wI u 61 1 = (boK ρ κ).2)) 0 0 128 [some (vR 61), some (vR rp), some (vR 14), some (vR 17), some (vI m), o] [] x := by
          intro o eb
          have hh := ih (m + 1) c0 o x (by omega) hF2 f0 (by rw [eb]; exact f2) (by rw [eb]; exact f1)
          rw [Int.natCast_add] at hh
          exact k_X2_make_128 hh
        have yes : ∀ o, o = some (vI (ki ρ κ m)) → boF ρ κ c0 (m + 1) = (ki ρ κ m, (m : Int)) → G Γ m_X2_make (fun v u => v = none ∧ Fr Po w u ∧ wI u 61 0 = nF κ ∧ wI u 61 2 = (boK ρ κ).1 ∧ ((boK ρ κ).1 ≠ -4 → wI u 61 1 = (boK ρ κ).2)) 0 0 116 [some (vR 61), some (vR rp), some (vR 14), some (vR 17), some (vI m), o] [] x := by
          intro o eo eb
          subst eo
          have hF3 : Fr Po x (stI (stI x 61 2 (ki ρ κ m)) 61 1 m) := (Fr.st (P := Po) (Or.inl rfl)).trans (Fr.st (P := Po) (Or.inl rfl))
          have hh := ih (m + 1) c0 (some (vI (ki ρ κ m))) (stI (stI x 61 2 (ki ρ κ m)) 61 1 m) (by omega) (hF2.trans hF3) (by rw [wI_skip (by decide), wI_skip (by decide)]; exact f0) (by rw [eb, wI_skip (by decide), wI_hit]) (by rw [eb, wI_hit])
          rw [Int.natCast_add] at hh
          exact k_X2_make_116 hh
        refine k_X2_make_84 (fun q2 => no _ (if_pos q2)) (fun q2 => k_X2_make_98 (fun q3 => yes _ rfl ?_) (fun q3 => k_X2_make_107 (fun q4 => no _ ?_) (fun q4 => yes _ rfl ?_)))
        · exact (if_neg q2).trans (if_pos (Or.inl (by omega)))
        · exact (if_neg q2).trans (if_neg (by omega))
        · exact (if_neg q2).trans (if_pos (Or.inr (by omega)))
  -- the free ones counted
  have cnt : ∀ (l k : Nat) (o : Option Value) (u : Wd), k + l = 4 → Fr Po w u → wI u 61 0 = cnF κ k → G Γ m_X2_make (fun v u => v = none ∧ Fr Po w u ∧ wI u 61 0 = nF κ ∧ wI u 61 2 = (boK ρ κ).1 ∧ ((boK ρ κ).1 ≠ -4 → wI u 61 1 = (boK ρ κ).2)) 0 0 8 [some (vR 61), some (vR rp), some (vR 14), some (vR 17), some (vI k), o] [] u := by
    intro l
    induction l with
    | zero =>
      intro k o u hk hF e0
      obtain ⟨s61u, hRu, hCu, c17u⟩ := frP u hF
      have : k = 4 := by omega
      subst this
      rw [cn_eq ok] at e0
      have hF3 : Fr Po u (stI u 61 2 (-4)) := Fr.st (P := Po) (Or.inl rfl)
      exact k_X2_make_8 (fun _ => k_X2_make_43 (codes (4 ^ nF κ) 0 (wI u 61 1) _ _ (by omega) (hF.trans hF3) (by rw [wI_skip (by decide)]; exact e0) (by rw [wI_hit]; rfl) (by rw [wI_skip (by decide)]; rfl))) (fun q => absurd q (by omega))
    | succ l ih =>
      intro k o u hk hF e0
      obtain ⟨s61u, hRu, hCu, c17u⟩ := frP u hF
      have scu := hCu.1.1
      have hF3 : ∀ z, Fr Po u (stI u 61 0 z) := fun z => Fr.st (P := Po) (Or.inl rfl)
      rcases hf.2.1 k (by omega) (by omega) with hw | hw
      · have e : cnF κ (k + 1) = cnF κ k + 1 := if_pos hw.1
        have hh := ih (k + 1) o (stI u 61 0 (wI u 61 0 + 1)) (by omega) (hF.trans (hF3 _)) (by rw [wI_hit, e, e0])
        rw [Int.natCast_add] at hh
        exact k_X2_make_8 (fun q => absurd q (by omega)) (fun _ => k_X2_make_14 (sp_isFree1 hCu ok (by omega) hw.2) (fun q => absurd q (by decide)) (fun _ => k_X2_make_28 hh))
      · have e : cnF κ (k + 1) = cnF κ k := if_neg (by omega)
        have hh := ih (k + 1) o (stI u 61 0 (wI u 61 0 + 0)) (by omega) (hF.trans (hF3 _)) (by rw [wI_hit, e, e0]; omega)
        rw [Int.natCast_add] at hh
        exact k_X2_make_8 (fun q => absurd q (by omega)) (fun _ => k_X2_make_14 (sp_isFree0 hCu ok (by omega) hw.2) (fun _ => k_X2_make_32 hh) (fun q => absurd rfl q))
  exact i_X2_make (k_X2_make_0 (cnt 4 0 none _ rfl (Fr.st (P := Po) (Or.inl rfl)) (by rw [wI_hit]; rfl)))
theorem c_order {σ : Sg} {k : Int} (h : RC w σ) (ok : okS σ) (hk : sm k) : SpI Γ m_X6_order [vR 0, vI k] w (CQ w (fOrder σ k, σ)) := by
  obtain ⟨⟨⟨s0, s1, s54, s55, s56, s57, s58, s59, s60, s61⟩, ⟨r0, r4, r5, r6, r7, r8, r9, r10⟩, -, c17⟩, ⟨rp, dp, hrp, r2, r3, hR, hD⟩, -, hC, -⟩ := id h
  have hf := frS_r ok.k
  have hn4 := hf.2.2.1
  unfold fOrder
  by_cases h1 : -1 ≤ k ∧ k ≤ 3
  · rw [if_pos h1]
    refine i_X6_order (k_X6_order_0 (sp_within1 h1 hk (by omega) (by omega)) (fun _ => ?_) (fun q => absurd q (by decide)))
    refine k_X6_order_11 (q1 := 61) (q2 := rp) (q3 := 14) (q4 := 17) (sp_orders s61 hR (by omega) hC c17 ok.r ok.k) (fun u hu => ?_)
    obtain ⟨hF, e0, e2, e1⟩ := hu
    have hRu : RC u σ := by
      obtain ⟨h0, h1, h2, h3, h4, h5, h6⟩ := id h
      exact ⟨h0.fr hF, h1.fr hF (fun a a1 a2 => by unfold Po Pc3; omega), h2.fr hF ⟨by unfold Po Pc3; omega, by unfold Po Pc3; omega⟩, h3.fr hF (fun a a1 a2 => by unfold Po Pc3; omega), h4.fr hF (fun a a1 a2 => by unfold Po Pc3; omega) (by omega), h5.fr hF (fun a a1 a2 => by unfold Po Pc3; omega) (by omega), h6.fr hF ⟨by unfold Po Pc3; omega, by unfold Po Pc3; omega, by unfold Po Pc3; omega⟩⟩
    have hFC : FC w u := hF.fc (fun a ha => by unfold Po Pc3 at ha; omega)
    have s0u : sh u 0 = some (.inr 6) := by rw [hF.sh]; exact s0
    have s61u : sh u 61 = some (.inr 2) := by rw [hF.sh]; exact s61
    have r10u : wR u 0 10 = vR 61 := by rw [hF.2.2]; exact r10
    have hbo := bo_r (ρ := gR σ) (κ := gK σ) (c0 := 0) (4 ^ nF (gK σ))
    have hbo : ((boK (gR σ) (gK σ)).1 = -4 ∧ _) ∨ ((0 ≤ (boK (gR σ) (gK σ)).1 ∧ (boK (gR σ) (gK σ)).1 ≤ 20 * nF (gK σ)) ∧ 0 ≤ (boK (gR σ) (gK σ)).2 ∧ (boK (gR σ) (gK σ)).2 < ((4 ^ nF (gK σ) : Nat) : Int)) := hbo
    have h44 : 4 ^ nF (gK σ) ≤ 4 ^ 4 := Nat.pow_le_pow_right (by decide) (by omega)
    refine k_X6_order_30 (fun q => ?_) (fun q => ?_)
    · -- the wall
      by_cases q2 : (boK (gR σ) (gK σ)).1 = -4
      · rw [if_pos q2]
        have hwa : SpP Γ m_X2_wallAt [vR 61, vI k] u (-4) := i_X2_wallAt (k_X2_wallAt_0 (fun _ => k_X2_wallAt_29 ⟨_, rfl, rfl, rfl⟩) (fun q3 => absurd (e2.trans q2) q3))
        exact k_X6_order_45 (q1 := 61) hwa ⟨_, rfl, rfl, hRu, hFC⟩
      · rw [if_neg q2, if_neg q]
        have e1 := e1 q2
        by_cases q3 : k < nF (gK σ)
        · rw [if_pos q3]
          have hwi := sp_wallIn (Γ := Γ) (w := u) (n := nF (gK σ)) (c := (boK (gR σ) (gK σ)).2.toNat) (k := k.toNat) s61u e0 (by omega) (by omega) (by omega)
          rw [show (((boK (gR σ) (gK σ)).2.toNat : Nat) : Int) = (boK (gR σ) (gK σ)).2 by omega, show ((k.toNat : Nat) : Int) = k by omega, ← e1] at hwi
          have hwl := wl_lt (n := nF (gK σ)) (c := (boK (gR σ) (gK σ)).2.toNat) (k := k.toNat)
          have hwa : SpP Γ m_X2_wallAt [vR 61, vI k] u (wlN (nF (gK σ)) (wI u 61 1).toNat k.toNat) := i_X2_wallAt (k_X2_wallAt_0 (fun q4 => absurd (e2.symm.trans q4) q2) (fun _ => k_X2_wallAt_9 (fun q4 => absurd q4 (by omega)) (fun _ => k_X2_wallAt_17 hwi ⟨_, rfl, rfl, rfl⟩)))
          rw [e1] at hwa
          exact k_X6_order_45 (q1 := 61) hwa ⟨_, rfl, rfl, hRu, hFC⟩
        · rw [if_neg q3]
          have hwa : SpP Γ m_X2_wallAt [vR 61, vI k] u (-4) := i_X2_wallAt (k_X2_wallAt_0 (fun q4 => absurd (e2.symm.trans q4) q2) (fun _ => k_X2_wallAt_9 (fun _ => k_X2_wallAt_29 ⟨_, rfl, rfl, rfl⟩) (fun q4 => absurd q4 (by omega))))
          exact k_X6_order_45 (q1 := 61) hwa ⟨_, rfl, rfl, hRu, hFC⟩
    · have e : (if (boK (gR σ) (gK σ)).1 = -4 then -4 else if k = -1 then (boK (gR σ) (gK σ)).1 else if k < nF (gK σ) then ((wlN (nF (gK σ)) (boK (gR σ) (gK σ)).2.toNat k.toNat : Nat) : Int) else -4) = (boK (gR σ) (gK σ)).1 := by
        by_cases q2 : (boK (gR σ) (gK σ)).1 = -4
        · rw [if_pos q2, q2]
        · rw [if_neg q2, if_pos q]
      rw [e]
      exact k_X6_order_35 (q1 := 61) ⟨_, rfl, e2, hRu, hFC⟩
  · rw [if_neg h1]
    exact i_X6_order (k_X6_order_0 (sp_within0 h1 hk (by omega) (by omega)) (fun q => absurd rfl q) (fun _ => k_X6_order_9 ⟨_, rfl, cq_same h⟩))
end

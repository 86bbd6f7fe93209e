/-- what the seam before strip s shows -/
def seR (ρ : Rm) (s : Int) : Int := if s ≤ 0 then 0 else rG ρ (s - 1) + rT ρ (s - 1)
abbrev Tb : Type := (Int → Int) × (Int → Int) × (Int → Int)
/-- the best of the breadths 1 to n at strip s -/
def czF (ρ : Rm) (T : Tb) (s : Int) : Nat → Int × Int × Int
  | 0 => (0, 0, 0)
  | b + 1 => if b = 0 ∨ lenF ρ s ((b : Int) + 1) + T.1 (s + ((b : Int) + 1)) < (czF ρ T s b).1 ∨ (lenF ρ s ((b : Int) + 1) + T.1 (s + ((b : Int) + 1)) = (czF ρ T s b).1 ∧ seR ρ s + T.2.1 (s + ((b : Int) + 1)) < (czF ρ T s b).2.1) then (lenF ρ s ((b : Int) + 1) + T.1 (s + ((b : Int) + 1)), seR ρ s + T.2.1 (s + ((b : Int) + 1)), (b : Int) + 1) else czF ρ T s b
def moF (ρ : Rm) (d : Int) : Nat := (min (rS ρ 2) d).toNat
/-- the tables of the last d strips -/
def tbF (ρ : Rm) (m : Int) : Nat → Tb
  | 0 => (fun _ => 0, fun _ => 0, fun _ => 0)
  | d + 1 => (upI (tbF ρ m d).1 (m - (d + 1)) (czF ρ (tbF ρ m d) (m - (d + 1)) (moF ρ (d + 1))).1, upI (tbF ρ m d).2.1 (m - (d + 1)) (czF ρ (tbF ρ m d) (m - (d + 1)) (moF ρ (d + 1))).2.1, upI (tbF ρ m d).2.2 (m - (d + 1)) (czF ρ (tbF ρ m d) (m - (d + 1)) (moF ρ (d + 1))).2.2)
section
variable {Γ : Gm} {w : Wd}
/-- the object of plans -/
def PlS (w : Wd) : Prop := (sh w 57 = some (.inr 1) ∧ sh w 58 = some (.inl (0, 13)) ∧ sh w 59 = some (.inl (0, 13)) ∧ sh w 60 = some (.inl (0, 13))) ∧ wR w 57 0 = vR 58 ∧ wR w 57 1 = vR 59 ∧ wR w 57 2 = vR 60
theorem PlS.fr {P : Nat → Prop} {w u : Wd} (h : PlS w) (g : Fr P w u) : PlS u := by
  unfold PlS at h ⊢
  simp only [g.sh, g.2.2]
  exact h
theorem seR_r {ρ : Rm} {s : Int} (okr : okR ρ) (hs : 0 ≤ s ∧ s ≤ rS ρ 0) : 0 ≤ seR ρ s ∧ seR ρ s ≤ 18 := by
  unfold seR
  split
  · omega
  · have h := okr.2.2.2.2.2.2.2.2.1 (s - 1) (by omega) (by omega)
    omega
/-- the tables' numbers are small -/
def okT (ρ : Rm) (m : Int) (T : Tb) (d : Nat) : Prop := ∀ s : Int, m - d ≤ s → s ≤ m → (0 ≤ T.1 s ∧ T.1 s ≤ 45 * (m - s)) ∧ (0 ≤ T.2.1 s ∧ T.2.1 s ≤ 18 * (m - s)) ∧ (s < m → 1 ≤ T.2.2 s ∧ T.2.2 s ≤ rS ρ 2 ∧ T.2.2 s ≤ m - s)
theorem cz_r {ρ : Rm} {T : Tb} {m s : Int} {d : Nat} (okr : okR ρ) (hm : m = rS ρ 0) (hT : okT ρ m T d) (hs : s = m - (d + 1)) (hs0 : 0 ≤ s) : ∀ b : Nat, 1 ≤ b → (b : Int) ≤ d + 1 → (0 ≤ (czF ρ T s b).1 ∧ (czF ρ T s b).1 ≤ 45 * (m - s)) ∧ (0 ≤ (czF ρ T s b).2.1 ∧ (czF ρ T s b).2.1 ≤ 18 * (m - s)) ∧ 1 ≤ (czF ρ T s b).2.2 ∧ (czF ρ T s b).2.2 ≤ b
  | 0, h, _ => absurd h (by decide)
  | b + 1, _, hb => by
    have h1 := hT (s + ((b : Int) + 1)) (by omega) (by omega)
    have h2 := lenF_r (ρ := ρ) (a := s) (b := (b : Int) + 1) okr hs0 (by omega) (by omega)
    have h3 := seR_r (ρ := ρ) (s := s) okr (by omega)
    unfold czF
    by_cases e : b = 0 ∨ lenF ρ s ((b : Int) + 1) + T.1 (s + ((b : Int) + 1)) < (czF ρ T s b).1 ∨ (lenF ρ s ((b : Int) + 1) + T.1 (s + ((b : Int) + 1)) = (czF ρ T s b).1 ∧ seR ρ s + T.2.1 (s + ((b : Int) + 1)) < (czF ρ T s b).2.1)
    · rw [if_pos e]
      refine ⟨?_, ?_, ?_⟩
      · show 0 ≤ lenF ρ s ((b : Int) + 1) + T.1 (s + ((b : Int) + 1)) ∧ lenF ρ s ((b : Int) + 1) + T.1 (s + ((b : Int) + 1)) ≤ _
        omega
      · show 0 ≤ seR ρ s + T.2.1 (s + ((b : Int) + 1)) ∧ seR ρ s + T.2.1 (s + ((b : Int) + 1)) ≤ _
        omega
      · show 1 ≤ (b : Int) + 1 ∧ (b : Int) + 1 ≤ ((b + 1 : Nat) : Int)
        omega
    · rw [if_neg e]
      have h4 := cz_r okr hm hT hs hs0 b (by omega) (by omega)
      omega
theorem tb_r {ρ : Rm} {m : Int} (okr : okR ρ) (hm : m = rS ρ 0) : ∀ d : Nat, (d : Int) ≤ m → okT ρ m (tbF ρ m d) d
  | 0, _ => fun s h1 h2 => by
    have : s = m := by omega
    subst this
    refine ⟨?_, ?_, fun h => absurd h (by omega)⟩
    · show (0 : Int) ≤ 0 ∧ (0 : Int) ≤ _; omega
    · show (0 : Int) ≤ 0 ∧ (0 : Int) ≤ _; omega
  | d + 1, hd => fun s h1 h2 => by
    have h := tb_r okr hm d (by omega)
    have o2 := okr.2.2.1
    have hmo : (moF ρ ((d : Int) + 1) : Int) = min (rS ρ 2) ((d : Int) + 1) := by unfold moF; omega
    have hz := cz_r okr hm h (s := m - ((d : Int) + 1)) rfl (by omega) (moF ρ ((d : Int) + 1)) (by omega) (by omega)
    show (0 ≤ (if s = m - ((d : Int) + 1) then _ else _) ∧ (if s = m - ((d : Int) + 1) then _ else _) ≤ 45 * (m - s)) ∧ (0 ≤ (if s = m - ((d : Int) + 1) then _ else _) ∧ (if s = m - ((d : Int) + 1) then _ else _) ≤ 18 * (m - s)) ∧ (s < m → 1 ≤ (if s = m - ((d : Int) + 1) then _ else _) ∧ (if s = m - ((d : Int) + 1) then _ else _) ≤ rS ρ 2 ∧ (if s = m - ((d : Int) + 1) then _ else _) ≤ m - s)
    by_cases e : s = m - ((d : Int) + 1)
    · rw [if_pos e, if_pos e, if_pos e, e]
      refine ⟨hz.1, hz.2.1, fun _ => ?_⟩
      omega
    · rw [if_neg e, if_neg e, if_neg e]
      exact h s (by omega) h2
/-- the cells of the plans -/
def Pp (a : Nat) : Prop := 57 ≤ a ∧ a ≤ 60
def TbC (w : Wd) (m : Int) (T : Tb) (d : Nat) : Prop := ∀ s : Int, m - d ≤ s → s ≤ m → wI w 58 s = T.1 s ∧ wI w 59 s = T.2.1 s ∧ (s < m → wI w 60 s = T.2.2 s)
theorem sp_choose {ρ : Rm} {rp : Nat} {m s : Int} {d : Nat} {T : Tb} (hP : PlS w) (hR : RoomC w rp ρ) (hrp : rp = 2 ∨ rp = 8) (okr : okR ρ) (hm : m = rS ρ 0) (e4 : wI w 57 4 = m) (hT : okT ρ m T d) (hC : TbC w m T d) (hs : s = m - (d + 1)) (hs0 : 0 ≤ s) : SpV Γ m_X1_choose [vR 57, vR rp, vI s] w (fun u => Fr (fun a => 58 ≤ a ∧ a ≤ 60) w u ∧ TbC u m (upI T.1 s (czF ρ T s (moF ρ ((d : Int) + 1))).1, upI T.2.1 s (czF ρ T s (moF ρ ((d : Int) + 1))).2.1, upI T.2.2 s (czF ρ T s (moF ρ ((d : Int) + 1))).2.2) (d + 1)) := by
  have o0 := okr.1
  have o2 := okr.2.2.1
  have hmo : (moF ρ ((d : Int) + 1) : Int) = min (rS ρ 2) ((d : Int) + 1) := by unfold moF; omega
  have hse := seR_r (ρ := ρ) (s := s) okr (by omega)
  obtain ⟨⟨s57, s58, s59, s60⟩, p0, p1, p2⟩ := id hP
  have sr := hR.1.1
  have e7 := hR.2.1 2 (by omega) (by omega)
  rw [show (2 : Int) + 5 = 7 by rfl] at e7
  have key : ∀ (l b : Nat) (o6 o7 : Option Value) (u : Wd), b + l = moF ρ ((d : Int) + 1) → Fr (fun a => 58 ≤ a ∧ a ≤ 60) w u → (∀ x : Int, x ≠ s → wI u 58 x = wI w 58 x ∧ wI u 59 x = wI w 59 x ∧ wI u 60 x = wI w 60 x) → (1 ≤ b → wI u 58 s = (czF ρ T s b).1 ∧ wI u 59 s = (czF ρ T s b).2.1 ∧ wI u 60 s = (czF ρ T s b).2.2) → G Γ m_X1_choose (fun v u => v = none ∧ Fr (fun a => 58 ≤ a ∧ a ≤ 60) w u ∧ TbC u m (upI T.1 s (czF ρ T s (moF ρ ((d : Int) + 1))).1, upI T.2.1 s (czF ρ T s (moF ρ ((d : Int) + 1))).2.1, upI T.2.2 s (czF ρ T s (moF ρ ((d : Int) + 1))).2.2) (d + 1)) 0 0 42 [some (vR 57), some (vR rp), some (vI s), some (vI (seR ρ s)), some (vI (moF ρ ((d : Int) + 1))), some (vI ((b : Int) + 1)), o6, o7] [] u := by
    intro l
    induction l with
    | zero =>
      intro b o6 o7 u hb hF ho hz
      have : b = moF ρ ((d : Int) + 1) := by omega
      refine k_X1_choose_42 (fun _ => k_X1_choose_139 ⟨rfl, hF, fun x x1 x2 => ?_⟩) (fun q => absurd q (by omega))
      rw [← this]
      have hz := hz (by omega)
      show wI u 58 x = (if x = s then _ else _) ∧ wI u 59 x = (if x = s then _ else _) ∧ (x < m → wI u 60 x = (if x = s then _ else _))
      by_cases e : x = s
      · rw [if_pos e, if_pos e, if_pos e, e]
        exact ⟨hz.1, hz.2.1, fun _ => hz.2.2⟩
      · rw [if_neg e, if_neg e, if_neg e, (ho x e).1, (ho x e).2.1, (ho x e).2.2]
        exact hC x (by omega) x2
    | succ l ih =>
      intro b o6 o7 u hb hF ho hz
      obtain ⟨⟨s57, s58, s59, s60⟩, p0, p1, p2⟩ := id (hP.fr hF)
      have hRu := hR.fr hF (fun a a1 a2 => by rcases hrp with q | q <;> omega)
      have sru := hRu.1.1
      have hC1 := hC (s + ((b : Int) + 1)) (by omega) (by omega)
      have ho1 := ho (s + ((b : Int) + 1)) (by omega)
      have hT1 := hT (s + ((b : Int) + 1)) (by omega) (by omega)
      have hlr := lenF_r (ρ := ρ) (a := s) (b := (b : Int) + 1) okr hs0 (by omega) (by omega)
      have hlen := sp_lengthFor (Γ := Γ) (w := u) hRu okr (a := s) (b := (b : Int) + 1) hs0 (by omega) (by omega)
      have c1 : SpP Γ m_X6_at [vR 58, vI (s + ((b : Int) + 1))] u (T.1 (s + ((b : Int) + 1))) := (sp_at s58 (by omega) (by omega)).cast (ho1.1.trans hC1.1)
      have c2 : SpP Γ m_X6_at [vR 59, vI (s + ((b : Int) + 1))] u (T.2.1 (s + ((b : Int) + 1))) := (sp_at s59 (by omega) (by omega)).cast (ho1.2.1.trans hC1.2.1)
      -- it is taken
      have take : czF ρ T s (b + 1) = (lenF ρ s ((b : Int) + 1) + T.1 (s + ((b : Int) + 1)), seR ρ s + T.2.1 (s + ((b : Int) + 1)), (b : Int) + 1) → G Γ m_X1_choose (fun v u => v = none ∧ Fr (fun a => 58 ≤ a ∧ a ≤ 60) w u ∧ TbC u m (upI T.1 s (czF ρ T s (moF ρ ((d : Int) + 1))).1, upI T.2.1 s (czF ρ T s (moF ρ ((d : Int) + 1))).2.1, upI T.2.2 s (czF ρ T s (moF ρ ((d : Int) + 1))).2.2) (d + 1)) 0 0 103 [some (vR 57), some (vR rp), some (vI s), some (vI (seR ρ s)), some (vI (moF ρ ((d : Int) + 1))), some (vI ((b : Int) + 1)), some (vI (lenF ρ s ((b : Int) + 1) + T.1 (s + ((b : Int) + 1)))), some (vI (seR ρ s + T.2.1 (s + ((b : Int) + 1))))] [] u := by
        intro e
        refine k_X1_choose_103 (q1 := 58) (sp_put (n := 13) s58 (by omega) (by omega)) (fun x hx => ?_)
        subst hx
        refine k_X1_choose_113 (q1 := 59) (sp_put (n := 13) s59 (by omega) (by omega)) (fun x hx => ?_)
        subst hx
        refine k_X1_choose_123 (q1 := 60) (sp_put (n := 13) s60 (by omega) (by omega)) (fun x hx => ?_)
        subst hx
        have hF1 : Fr (fun a => 58 ≤ a ∧ a ≤ 60) u (stI (stI (stI u 58 s (lenF ρ s ((b : Int) + 1) + T.1 (s + ((b : Int) + 1)))) 59 s (seR ρ s + T.2.1 (s + ((b : Int) + 1)))) 60 s ((b : Int) + 1)) := ((Fr.st (P := fun a => 58 ≤ a ∧ a ≤ 60) (by decide)).trans (Fr.st (P := fun a => 58 ≤ a ∧ a ≤ 60) (by decide))).trans (Fr.st (P := fun a => 58 ≤ a ∧ a ≤ 60) (by decide))
        have hh := ih (b + 1) (some (vI (lenF ρ s ((b : Int) + 1) + T.1 (s + ((b : Int) + 1))))) (some (vI (seR ρ s + T.2.1 (s + ((b : Int) + 1))))) _ (by omega) (hF.trans hF1) (fun y hy => by
          rw [wI_st_ne (r := 60) (a := 58) (by decide), wI_st_ne (r := 59) (a := 58) (by decide), wI_skip hy, wI_st_ne (r := 60) (a := 59) (by decide), wI_skip hy, wI_st_ne (r := 58) (a := 59) (by decide), wI_skip hy, wI_st_ne (r := 59) (a := 60) (by decide), wI_st_ne (r := 58) (a := 60) (by decide)]
          exact ho y hy) (fun _ => by
          rw [e, wI_st_ne (r := 60) (a := 58) (by decide), wI_st_ne (r := 59) (a := 58) (by decide), wI_hit, wI_st_ne (r := 60) (a := 59) (by decide), wI_hit, wI_hit]
          exact ⟨rfl, rfl, rfl⟩)
        rw [Int.natCast_add] at hh
        exact k_X1_choose_133 hh
      have keep : czF ρ T s (b + 1) = czF ρ T s b → 1 ≤ b → ∀ o6 o7, G Γ m_X1_choose (fun v u => v = none ∧ Fr (fun a => 58 ≤ a ∧ a ≤ 60) w u ∧ TbC u m (upI T.1 s (czF ρ T s (moF ρ ((d : Int) + 1))).1, upI T.2.1 s (czF ρ T s (moF ρ ((d : Int) + 1))).2.1, upI T.2.2 s (czF ρ T s (moF ρ ((d : Int) + 1))).2.2) (d + 1)) 0 0 133 [some (vR 57), some (vR rp), some (vI s), some (vI (seR ρ s)), some (vI (moF ρ ((d : Int) + 1))), some (vI ((b : Int) + 1)), o6, o7] [] u := by
        intro e hb1 o6 o7
        have hh := ih (b + 1) o6 o7 u (by omega) hF ho (fun _ => by rw [e]; exact hz hb1)
        rw [Int.natCast_add] at hh
        exact k_X1_choose_133 hh
      refine k_X1_choose_42 (fun q => absurd q (by omega)) (fun _ => k_X1_choose_49 (q2 := 58) (q4 := 59) hlen c1 c2 (fun q => take (if_pos (Or.inl (by omega)))) (fun q => ?_))
      have hz1 := hz (by omega)
      have hzr := cz_r okr hm hT hs hs0 b (by omega) (by omega)
      have c3 : SpP Γ m_X6_at [vR 58, vI s] u (czF ρ T s b).1 := (sp_at s58 (by omega) (by omega)).cast hz1.1
      have c4 : SpP Γ m_X6_at [vR 59, vI s] u (czF ρ T s b).2.1 := (sp_at s59 (by omega) (by omega)).cast hz1.2.1
      by_cases e : lenF ρ s ((b : Int) + 1) + T.1 (s + ((b : Int) + 1)) < (czF ρ T s b).1 ∨ (lenF ρ s ((b : Int) + 1) + T.1 (s + ((b : Int) + 1)) = (czF ρ T s b).1 ∧ seR ρ s + T.2.1 (s + ((b : Int) + 1)) < (czF ρ T s b).2.1)
      · have hl : SpP Γ m_X1_isLess [vR 57, vI (lenF ρ s ((b : Int) + 1) + T.1 (s + ((b : Int) + 1))), vI (seR ρ s + T.2.1 (s + ((b : Int) + 1))), vI s] u 1 := i_X1_isLess (k_X1_isLess_0 (q1 := 58) c3 (fun _ => k_X1_isLess_34 ⟨_, rfl, rfl, rfl⟩) (fun q1 => k_X1_isLess_16 (fun q2 => absurd q2 (by omega)) (fun q2 => k_X1_isLess_22 (q1 := 59) c4 (fun q3 => absurd q3 (by omega)) (fun _ => k_X1_isLess_34 ⟨_, rfl, rfl, rfl⟩))))
        exact k_X1_choose_91 hl (fun q => absurd q (by decide)) (fun _ => take (if_pos (Or.inr e)))
      · have hl : SpP Γ m_X1_isLess [vR 57, vI (lenF ρ s ((b : Int) + 1) + T.1 (s + ((b : Int) + 1))), vI (seR ρ s + T.2.1 (s + ((b : Int) + 1))), vI s] u 0 := i_X1_isLess (k_X1_isLess_0 (q1 := 58) c3 (fun q1 => absurd (Or.inl q1) e) (fun q1 => k_X1_isLess_16 (fun q2 => k_X1_isLess_38 ⟨_, rfl, rfl, rfl⟩) (fun q2 => k_X1_isLess_22 (q1 := 59) c4 (fun q3 => k_X1_isLess_38 ⟨_, rfl, rfl, rfl⟩) (fun q3 => absurd (Or.inr ⟨q2, by omega⟩) e))))
        exact k_X1_choose_91 hl (fun _ => keep (if_neg (fun q2 => by rcases q2 with q2 | q2; omega; exact e q2)) (by omega) _ _) (fun q => absurd rfl q)
  have fin := fun o6 o7 => key (moF ρ ((d : Int) + 1)) 0 o6 o7 w (by omega) Fr.rfl (fun x _ => ⟨rfl, rfl, rfl⟩) (fun q => absurd q (by decide))
  have emin : min (wI w rp 7) (wI w 57 4 - s) = moF ρ ((d : Int) + 1) := by rw [e7, e4, hmo]; omega
  refine i_X1_choose (k_X1_choose_0 (fun q => k_X1_choose_22 ?_) (fun q => ?_))
  · rw [emin]
    have e : seR ρ s = 0 := if_pos q
    rw [e] at fin
    exact fin _ _
  · have hst := sp_strips (Γ := Γ) hR okr (s := s - 1) (by omega)
    have hb := okr.2.2.2.2.2.2.2.2.1 (s - 1) (by omega) (by omega)
    refine k_X1_choose_4 hst.2.1 hst.2.2 ?_
    rw [emin]
    have e : seR ρ s = rG ρ (s - 1) + rT ρ (s - 1) := if_neg q
    rw [e] at fin
    exact fin _ _
end

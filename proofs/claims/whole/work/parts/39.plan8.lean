section
variable {Γ : Gm} {w : Wd}
def cvQ (w : Wd) (R : Int) (B : Option Tr) (t : Tr) (u : Wd) : Prop := Fr (fun a => a = 63 ∨ a = 77) w u ∧ (∀ k, k ≠ 24 → k ≠ 25 → k ≠ 26 → wI u 63 k = wI w 63 k) ∧ ∃ B', mbS u B' ∧ ((¬ t.1 ≤ R ∧ B' = B) ∨ (t.1 ≤ R ∧ ((∃ b, B = some b ∧ le3 b t ∧ B' = B) ∨ ((∀ b, B = some b → ¬ le3 b t) ∧ B' = some t))))
theorem sp_covers {ρ : Rm} {κ : Kp} {l0 : List Int} {a m : Int} {n : Nat} {B : Option Tr} (hM : RoomM w ρ) (hA : CarA w 71 ρ κ) (okr : okR ρ) (ok : okK ρ κ) (hm : m = rS ρ 0) (a0 : 0 ≤ a ∧ a ≤ m) (hn : n = l0.length) (hl : okL ρ m a l0) (hr : RwM w 76 0 l0) (hB : mbS w B) : SpI Γ m_X7_covers [vR 63, vI n, vI a] w (fun _ u => cvQ w (rollK ρ κ) B (trL ρ a l0) u) := by
  obtain ⟨⟨c0, c1, c2, c3, c4, c5, c6, c7, c8, c9, c10, c11, c12, c13, c14⟩, d1, d2, d3, d4, d5, d6, d7, d8, d9, d10, d11, d12, d13, d14⟩ := id hM.1
  have o0 := okr.1
  have o2 := okr.2.2.1
  have hro := rollK_r okr ok
  have e9 : wI w 63 9 = m := hM.2.1.trans hm.symm
  have hb0 := cu_r okr hm l0 a a0.1 a0.2 hl
  have hi0 := okL_inv l0 a hl
  have no : ((¬ cuL ρ a l0 ≤ rollK ρ κ) ∨ (cuL ρ a l0 ≤ rollK ρ κ ∧ ∃ b, B = some b ∧ le3 b (trL ρ a l0))) → cvQ w (rollK ρ κ) B (trL ρ a l0) w := fun h => by
    rcases h with h | ⟨h, b, h1, h2⟩
    · exact ⟨Fr.rfl, fun _ _ _ _ => rfl, B, hB, Or.inl ⟨h, rfl⟩⟩
    · exact ⟨Fr.rfl, fun _ _ _ _ => rfl, B, hB, Or.inr ⟨h, Or.inl ⟨b, h1, h2, rfl⟩⟩⟩
  have take : cuL ρ a l0 ≤ rollK ρ κ → (∀ b, B = some b → ¬ le3 b (trL ρ a l0)) → ∀ o3 o6 : Option Value, G Γ m_X7_covers (fun v u => ∃ z, v = some (vI z) ∧ cvQ w (rollK ρ κ) B (trL ρ a l0) u) 0 0 162 [some (vR 63), some (vI n), some (vI a), o3, some (vI (cuL ρ a l0)), some (vI (smL ρ a l0)), o6] [] w := by
    intro h1 h2 o3 o6
    have hF1 : Fr (fun a => a = 63 ∨ a = 77) w (stI (stI (stI w 63 25 (cuL ρ a l0)) 63 26 (smL ρ a l0)) 63 24 n) := ((Fr.st (P := fun a => a = 63 ∨ a = 77) (Or.inl rfl)).trans (Fr.st (P := fun a => a = 63 ∨ a = 77) (Or.inl rfl))).trans (Fr.st (P := fun a => a = 63 ∨ a = 77) (Or.inl rfl))
    refine k_X7_covers_162 (q1 := 76) (q2 := 77) (sp_bring (na := 12) (nb := 12) (by rw [hF1.sh]; exact c13) (by rw [hF1.sh]; exact c14) (by omega) (by omega) (by omega) (by omega) (by omega) (Or.inl (by decide))) (fun u hu => k_X7_covers_205 ⟨_, rfl, hF1.trans (hu.1.mono (fun a ha => Or.inr ha)), fun k k1 k2 k3 => ?_, some (trL ρ a l0), ⟨⟨?_, ?_, ?_⟩, ?_, ⟨by show l0.length ≤ 12; omega, fun x hx => ?_⟩, ?_, ?_⟩, Or.inr ⟨h1, Or.inr ⟨h2, rfl⟩⟩⟩)
    · rw [hu.1.2.1 63 (by decide), wI_skip k1, wI_skip k3, wI_skip k2]
    · rw [hu.1.2.1 63 (by decide), wI_skip (by decide), wI_skip (by decide), wI_hit]; rfl
    · rw [hu.1.2.1 63 (by decide), wI_skip (by decide), wI_hit]; rfl
    · rw [hu.1.2.1 63 (by decide), wI_hit, hn]; rfl
    · have : ∀ (l : List Int) (i : Nat), i + l.length = n → RwM w 76 i l → RwM u 77 i l := by
        intro l
        induction l with
        | nil => intro i _ _; trivial
        | cons b l ih =>
          intro i hi r
          have hi : i + (l.length + 1) = n := hi
          refine ⟨?_, ?_⟩
          · rw [hu.2, if_pos (by omega), wI_st_ne (by decide), wI_st_ne (by decide), wI_st_ne (by decide), show (0 : Int) + ((i : Int) - 0) = i by omega]
            exact r.1
          · have := ih (i + 1) (by omega) (by rw [Int.natCast_add]; exact r.2)
            rw [Int.natCast_add] at this
            exact this
      exact this l0 0 (by omega) hr
    · have := hi0.1 x hx
      have := hi0.2.1 x hx
      omega
    · show 0 ≤ cuL ρ a l0 ∧ cuL ρ a l0 < 1000
      omega
    · show 0 ≤ smL ρ a l0 ∧ smL ρ a l0 < 1000
      omega
  have cmp : cuL ρ a l0 ≤ rollK ρ κ → ∀ o3 o6 : Option Value, G Γ m_X7_covers (fun v u => ∃ z, v = some (vI z) ∧ cvQ w (rollK ρ κ) B (trL ρ a l0) u) 0 0 111 [some (vR 63), some (vI n), some (vI a), o3, some (vI (cuL ρ a l0)), some (vI (smL ρ a l0)), o6] [] w := by
    intro h o3 o6
    cases B with
    | none =>
      have e25 : wI w 63 25 = -1 := hB.1
      exact k_X7_covers_111 (fun _ => take h (fun b hb => absurd hb (by simp)) _ _) (fun q => absurd q (by omega))
    | some b =>
      obtain ⟨⟨e25, e26, e24⟩, h77, ⟨hlen, hsm⟩, hc1, hc2⟩ := hB
      have tk : (¬ le3 b (trL ρ a l0)) → ∀ b', some b = some b' → ¬ le3 b' (trL ρ a l0) := fun q b' e => by
        rw [← Option.some.inj e]; exact q
      have hbl : ∀ x ∈ l0, sm x := fun x hx => by
        have := hi0.1 x hx
        have := hi0.2.1 x hx
        omega
      have hib := sp_isBefore (Γ := Γ) (w := w) hM.1 (l0 := l0) (k0 := b.2.2) e24 hn (by omega) hlen hr h77 ⟨hbl, hsm⟩
      have hlt := ltB_le l0 b.2.2
      have hlt2 : sm (ltB l0 b.2.2) := by rcases hlt with q | q <;> omega
      refine k_X7_covers_111 (fun q => absurd q (by omega)) (fun _ => k_X7_covers_118 (fun q => take h (tk ?_) _ _) (fun q => k_X7_covers_127 (fun q2 => k_X7_covers_166 ⟨_, rfl, no (Or.inr ⟨h, b, rfl, ?_⟩)⟩) (fun q2 => k_X7_covers_136 (fun q3 => take h (tk ?_) _ _) (fun q3 => k_X7_covers_145 (fun q4 => k_X7_covers_166 ⟨_, rfl, no (Or.inr ⟨h, b, rfl, ?_⟩)⟩) (fun q4 => k_X7_covers_154 hib (fun q5 => k_X7_covers_166 ⟨_, rfl, no (Or.inr ⟨h, b, rfl, ?_⟩)⟩) (fun q5 => take h (tk ?_) _ _))))))
      · intro r
        rcases r with r | ⟨r, -⟩
        · have r : b.1 < cuL ρ a l0 := r
          omega
        · have r : b.1 = cuL ρ a l0 := r
          omega
      · exact Or.inl (by show b.1 < cuL ρ a l0; omega)
      · intro r
        rcases r with r | ⟨r, r2 | ⟨r2, r3⟩⟩
        · have r : b.1 < cuL ρ a l0 := r
          omega
        · have r2 : b.2.1 < smL ρ a l0 := r2
          omega
        · have r2 : b.2.1 = smL ρ a l0 := r2
          omega
      · exact Or.inr ⟨by show b.1 = cuL ρ a l0; omega, Or.inl (by show b.2.1 < smL ρ a l0; omega)⟩
      · rcases hlt with ⟨t1, t2⟩ | ⟨t1, t2⟩
        · exact Or.inr ⟨by show b.1 = cuL ρ a l0; omega, Or.inr ⟨by show b.2.1 = smL ρ a l0; omega, t2⟩⟩
        · omega
      · rcases hlt with ⟨t1, t2⟩ | ⟨t1, t2⟩
        · exact absurd t1 q5
        · intro r
          rcases r with r | ⟨r, r2 | ⟨r2, r3⟩⟩
          · have r : b.1 < cuL ρ a l0 := r
            omega
          · have r2 : b.2.1 < smL ρ a l0 := r2
            omega
          · exact t2 r3
  have loop : ∀ (l : List Int) (i : Nat) (s c e : Int), i + l.length = n → a ≤ s → s ≤ m → RwM w 76 i l → okL ρ m s l → c + cuL ρ s l = cuL ρ a l0 → e + smL ρ s l = smL ρ a l0 → (0 ≤ c ∧ c < 1000) → (0 ≤ e ∧ e < 1000) → G Γ m_X7_covers (fun v u => ∃ z, v = some (vI z) ∧ cvQ w (rollK ρ κ) B (trL ρ a l0) u) 0 0 11 [some (vR 63), some (vI n), some (vI a), some (vI s), some (vI c), some (vI e), some (vI i)] [] w := by
    intro l
    induction l with
    | nil =>
      intro i s c e hi h1 h2 _ hok hc he cb eb
      have hi : i = n := hi
      have hok : s = m := hok
      have hc : c + 0 = cuL ρ a l0 := hc
      have he : e + 0 = smL ρ a l0 := he
      rw [Int.add_zero] at hc he
      subst hc
      subst he
      exact k_X7_covers_11 (fun _ => k_X7_covers_88 (fun q => absurd q (by omega)) (fun _ => k_X7_covers_96 (q1 := 71) (sp_rollIn hM hA okr ok) (fun q => cmp q _ _) (fun q => k_X7_covers_109 ⟨_, rfl, no (Or.inl q)⟩))) (fun q => absurd q (by omega))
    | cons b l ih =>
      intro i s c e hi h1 h2 hrw hok hc he cb eb
      have hi : i + (l.length + 1) = n := hi
      obtain ⟨⟨b1, b2, b3⟩, hok⟩ := hok
      have er : wI w 76 i = b := hrw.1
      have hc : c + (lenF ρ s b + cuL ρ (s + b) l) = cuL ρ a l0 := hc
      have he : e + (seR ρ s + smL ρ (s + b) l) = smL ρ a l0 := he
      have q1 := cu_r okr hm l (s + b) (by omega) b3 hok
      have h2' := lenF_r (ρ := ρ) (a := s) (b := b) okr (by omega) (by omega) (by omega)
      have h3 := seR_r (ρ := ρ) (s := s) okr (by omega)
      have hlong := sp_longFor (Γ := Γ) (w := w) hM okr (a := s) (b := b) (by omega) (by omega) (by omega)
      have hh := ih (i + 1) (s + b) (c + lenF ρ s b) (e + seR ρ s) (by omega) (by omega) b3 (by rw [Int.natCast_add]; exact hrw.2) hok (by omega) (by omega) (by omega) (by omega)
      rw [Int.natCast_add] at hh
      refine k_X7_covers_11 (fun q => absurd q (by omega)) (fun _ => k_X7_covers_17 (q1 := 76) (n2 := 12) (fun _ => k_X7_covers_35 (fun q => ?_) (fun q => ?_)) (fun q => absurd q (by omega)))
      · have e0 : seR ρ s = 0 := if_pos q
        rw [e0] at hh
        refine k_X7_covers_51 (q1 := 76) (n2 := 12) (z3 := lenF ρ s b) (by rw [er]; exact hlong) ?_
        rw [er]
        exact hh
      · refine k_X7_covers_41 (q2 := 76) (n3 := 12) (z4 := lenF ρ s b) (sp_seamM hM okr (by omega)) (by rw [er]; exact hlong) ?_
        rw [er]
        exact hh
  exact i_X7_covers (k_X7_covers_0 (loop l0 0 a 0 0 (by omega) (by omega) a0.2 hr hl (by omega) (by omega) (by omega) (by omega)))
end

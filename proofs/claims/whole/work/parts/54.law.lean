section
variable {Γ : Gm} {w : Wd}
theorem RoomC.gq {P : Nat → Prop} {w u : Wd} {r : Nat} {ρ : Rm} (h : RoomC w r ρ) (g : Gq P w u) (hp : ∀ a, r ≤ a → a ≤ r + 5 → P a) : RoomC u r ρ := by
  obtain ⟨h0, h1, h2, h3⟩ := h
  have e0 := (g.2 r (hp _ (by omega) (by omega))).1
  have e1 := (g.2 (r + 1) (hp _ (by omega) (by omega))).1
  have e2 := (g.2 (r + 2) (hp _ (by omega) (by omega))).1
  have e3 := (g.2 (r + 3) (hp _ (by omega) (by omega))).1
  have e4 := (g.2 (r + 4) (hp _ (by omega) (by omega))).1
  exact ⟨h0.gq g (hp _ (by omega) (by omega)), fun i a b => by rw [e0]; exact h1 i a b, fun s a b => by rw [e1, e2, e3]; exact h2 s a b, fun k a b => by rw [e4]; exact h3 k a b⟩
theorem CarC.gq {P : Nat → Prop} {w u : Wd} {c : Nat} {ρ : Rm} {κ : Kp} (h : CarC w c ρ κ) (g : Gq P w u) (hp : ∀ a, c ≤ a → a ≤ c + 2 → P a) : CarC u c ρ κ := by
  obtain ⟨h0, h1, h2, h3, h4, h5, h6, h7, h8⟩ := h
  have e0 := (g.2 c (hp _ (by omega) (by omega))).1
  have e1 := (g.2 (c + 1) (hp _ (by omega) (by omega))).1
  have e2 := (g.2 (c + 2) (hp _ (by omega) (by omega))).1
  exact ⟨h0.gq g (hp _ (by omega) (by omega)), by rw [e0]; exact h1, by rw [e0]; exact h2, by rw [e0]; exact h3, by rw [e0]; exact h4, by rw [e0]; exact h5, by rw [e0]; exact h6, fun k a b => by rw [e1]; exact h7 k a b, fun i a b => by rw [e2]; exact h8 i a b⟩
theorem ShC.gq {P : Nat → Prop} {w u : Wd} {s m : Nat} {ρ : Rm} {p : Int × (Int → Kp)} (h : ShC w s m ρ p) (g : Gq P w u) (hp : ∀ a, s ≤ a → a < s + 2 + 3 * m → P a) (hm : 0 < m) : ShC u s m ρ p := by
  obtain ⟨h0, h1, h2, h3⟩ := h
  have e0 := (g.2 s (hp _ (by omega) (by omega))).1
  refine ⟨h0.gq g hp, by rw [e0]; exact h1, by rw [e0]; exact h2, fun j i a b c d => ?_⟩
  rw [e0] at d
  exact (h3 j i a b c d).gq g (fun x x1 x2 => hp x (by omega) (by omega))
theorem RC.gq {u : Wd} {σ : Sg} (h : RC w σ) (g : Gq (fun a => a < 63) w u) : RC u σ := by
  obtain ⟨⟨⟨a0, a1, a2, a3, a4, a5, a6, a7, a8, a9⟩, ⟨b0, b1, b2, b3, b4, b5, b6, b7⟩, ⟨c0, c1, c2, c3, c4⟩, hS⟩, ⟨rp, dp, hrp, r2, r3, hR, hD⟩, hT, hC, hU, hE, hV⟩ := h
  have e0 := g.2 0 (by decide)
  have e1 := g.2 1 (by decide)
  have e54 := g.2 54 (by decide)
  have e55 := g.2 55 (by decide)
  have e56 := g.2 56 (by decide)
  have e57 := g.2 57 (by decide)
  refine ⟨⟨⟨g.sh a0, g.sh a1, g.sh a2, g.sh a3, g.sh a4, g.sh a5, g.sh a6, g.sh a7, g.sh a8, g.sh a9⟩, ⟨by rw [e0.2]; exact b0, by rw [e0.2]; exact b1, by rw [e0.2]; exact b2, by rw [e0.2]; exact b3, by rw [e0.2]; exact b4, by rw [e0.2]; exact b5, by rw [e0.2]; exact b6, by rw [e0.2]; exact b7⟩, ⟨by rw [e54.2]; exact c0, by rw [e54.2]; exact c1, by rw [e57.2]; exact c2, by rw [e57.2]; exact c3, by rw [e57.2]; exact c4⟩, hS.gq g (by decide)⟩, ⟨rp, dp, hrp, by rw [e0.2]; exact r2, by rw [e0.2]; exact r3, hR.gq g (fun a x y => by omega), hD.gq g (by omega)⟩, ⟨by rw [e0.1]; exact hT.1, fun k a b => by rw [e1.1]; exact hT.2 k a b⟩, hC.gq g (fun a x y => by omega), hU.gq g (fun a x y => by omega) (by decide), hE.gq g (fun a x y => by omega) (by decide), ⟨by rw [e54.1]; exact hV.1, fun k a b => by rw [e55.1, e56.1]; exact hV.2 k a b⟩⟩
theorem G_same {μ : Mu} {Ret : Option Value → Wd → Prop} {kc ks pc : Nat} {L : List (Option Value)} {st : List Value} {z off : Int} {tgt : Nat} (hd : decode μ.2.1 pc = .ok (.if_icmp .eq off, 3)) (ht : (pc : Int) + off = (tgt : Int)) (kk : G Γ μ Ret kc ks tgt L st w) : G Γ μ Ret kc ks pc L (vI z :: vI z :: st) w :=
  fun p e R s m args below meth c H locs Q ls C r P S o => lv_icmp_eq C.1 C.2.1 hd ht (fun _ => kk p e R s m args below meth c H locs Q ls C r P S o) (fun q => absurd rfl q)
/-- the law goes on behind one call -/
def Nx (Γ : Gm) (Ret : Option Value → Wd → Prop) (a : Int) : Prop := ∀ (u : Wd) (σ : Sg), RC u σ → RM u σ → okS σ → G Γ m_L_law Ret 78 1547 18 [some (vR 999), some (vR 0), some (vR 63), some (vI (a + 5))] [] u
variable {Ret : Option Value → Wd → Prop} {a : Int} {σ : Sg}
theorem law_write (hL : Γ.2.2.2.2.2.1 ≤ 2560) (h : RC w σ) (hm : RM w σ) (ok : okS σ) (ha : 0 ≤ a ∧ a + 4 < (Γ.2.2.2.2.2.1 : Int)) (next : Nx Γ Ret a) : G Γ m_L_law Ret 78 1547 156 [some (vR 999), some (vR 0), some (vR 63), some (vI a)] [] w := by
  have s0 := h.1.1.1
  refine k_L_law_156 (c_write h ok (sm_of _)) (fun z u hu => ?_)
  obtain ⟨rfl, hc, hf⟩ := hu
  have hm1 := hm.fc hf
  have s63 := hm1.1.1.1.1
  refine k_L_law_165 (m_write hm1 ok (sm_of _)) (fun z v hv => ?_)
  obtain ⟨rfl, hm2, hf2⟩ := hv
  exact G_same (tgt := 797) dL_law_174 (by decide) (k_L_law_797 (next v _ (hc.fm hf2) hm2 (ok_write ok)))
theorem law_wipe (hL : Γ.2.2.2.2.2.1 ≤ 2560) (h : RC w σ) (hm : RM w σ) (ok : okS σ) (ha : 0 ≤ a ∧ a + 4 < (Γ.2.2.2.2.2.1 : Int)) (next : Nx Γ Ret a) : G Γ m_L_law Ret 78 1547 179 [some (vR 999), some (vR 0), some (vR 63), some (vI a)] [] w := by
  have s0 := h.1.1.1
  refine k_L_law_179 (c_wipe h) (fun z u hu => ?_)
  obtain ⟨rfl, hc, hf⟩ := hu
  have hm1 := hm.fc hf
  have s63 := hm1.1.1.1.1
  refine k_L_law_183 (m_wipe hm1) (fun z v hv => ?_)
  obtain ⟨rfl, hm2, hf2⟩ := hv
  exact G_same (tgt := 797) dL_law_187 (by decide) (k_L_law_797 (next v _ (hc.fm hf2) hm2 (ok_wipe ok)))
theorem law_fault (hL : Γ.2.2.2.2.2.1 ≤ 2560) (h : RC w σ) (hm : RM w σ) (ok : okS σ) (ha : 0 ≤ a ∧ a + 4 < (Γ.2.2.2.2.2.1 : Int)) (next : Nx Γ Ret a) : G Γ m_L_law Ret 78 1547 192 [some (vR 999), some (vR 0), some (vR 63), some (vI a)] [] w := by
  have s0 := h.1.1.1
  refine k_L_law_192 (c_fault h ok) (fun z u hu => ?_)
  obtain ⟨rfl, hc, hf⟩ := hu
  have hm1 := hm.fc hf
  have s63 := hm1.1.1.1.1
  refine k_L_law_196 (m_fault hm1 ok) (fun z v hv => ?_)
  obtain ⟨rfl, hm2, hf2⟩ := hv
  exact G_same (tgt := 797) dL_law_200 (by decide) (k_L_law_797 (next v σ (hc.fm hf2) hm2 ok))
theorem law_lay (hL : Γ.2.2.2.2.2.1 ≤ 2560) (h : RC w σ) (hm : RM w σ) (ok : okS σ) (ha : 0 ≤ a ∧ a + 4 < (Γ.2.2.2.2.2.1 : Int)) (next : Nx Γ Ret a) : G Γ m_L_law Ret 78 1547 205 [some (vR 999), some (vR 0), some (vR 63), some (vI a)] [] w := by
  have s0 := h.1.1.1
  refine k_L_law_205 (c_lay h ok) (fun z u hu => ?_)
  obtain ⟨rfl, hc, hf⟩ := hu
  have hm1 := hm.fc hf
  have s63 := hm1.1.1.1.1
  refine k_L_law_209 (m_lay hm1 ok) (fun z v hv => ?_)
  obtain ⟨rfl, hm2, hf2⟩ := hv
  exact G_same (tgt := 797) dL_law_213 (by decide) (k_L_law_797 (next v _ (hc.fm hf2) hm2 (ok_lay ok)))
theorem law_strip (hL : Γ.2.2.2.2.2.1 ≤ 2560) (h : RC w σ) (hm : RM w σ) (ok : okS σ) (ha : 0 ≤ a ∧ a + 4 < (Γ.2.2.2.2.2.1 : Int)) (next : Nx Γ Ret a) : G Γ m_L_law Ret 78 1547 218 [some (vR 999), some (vR 0), some (vR 63), some (vI a)] [] w := by
  have s0 := h.1.1.1
  refine k_L_law_218 (c_strip h ok (sm_of _) (sm_of _)) (fun z u hu => ?_)
  obtain ⟨rfl, hc, hf⟩ := hu
  have hm1 := hm.fc hf
  have s63 := hm1.1.1.1.1
  refine k_L_law_232 (m_strip hm1 ok (sm_of _) (sm_of _)) (fun z v hv => ?_)
  obtain ⟨rfl, hm2, hf2⟩ := hv
  exact G_same (tgt := 797) dL_law_246 (by decide) (k_L_law_797 (next v σ (hc.fm hf2) hm2 ok))
theorem law_wall (hL : Γ.2.2.2.2.2.1 ≤ 2560) (h : RC w σ) (hm : RM w σ) (ok : okS σ) (ha : 0 ≤ a ∧ a + 4 < (Γ.2.2.2.2.2.1 : Int)) (next : Nx Γ Ret a) : G Γ m_L_law Ret 78 1547 251 [some (vR 999), some (vR 0), some (vR 63), some (vI a)] [] w := by
  have s0 := h.1.1.1
  refine k_L_law_251 (c_wall h ok (sm_of _) (sm_of _)) (fun z u hu => ?_)
  obtain ⟨rfl, hc, hf⟩ := hu
  have hm1 := hm.fc hf
  have s63 := hm1.1.1.1.1
  refine k_L_law_265 (m_wall hm1 ok (sm_of _) (sm_of _)) (fun z v hv => ?_)
  obtain ⟨rfl, hm2, hf2⟩ := hv
  exact G_same (tgt := 797) dL_law_279 (by decide) (k_L_law_797 (next v σ (hc.fm hf2) hm2 ok))
theorem law_damp (hL : Γ.2.2.2.2.2.1 ≤ 2560) (h : RC w σ) (hm : RM w σ) (ok : okS σ) (ha : 0 ≤ a ∧ a + 4 < (Γ.2.2.2.2.2.1 : Int)) (next : Nx Γ Ret a) : G Γ m_L_law Ret 78 1547 284 [some (vR 999), some (vR 0), some (vR 63), some (vI a)] [] w := by
  have s0 := h.1.1.1
  refine k_L_law_284 (c_damp h ok (sm_of _)) (fun z u hu => ?_)
  obtain ⟨rfl, hc, hf⟩ := hu
  have hm1 := hm.fc hf
  have s63 := hm1.1.1.1.1
  refine k_L_law_293 (m_damp hm1 ok (sm_of _)) (fun z v hv => ?_)
  obtain ⟨rfl, hm2, hf2⟩ := hv
  exact G_same (tgt := 797) dL_law_302 (by decide) (k_L_law_797 (next v σ (hc.fm hf2) hm2 ok))
theorem law_cut (hL : Γ.2.2.2.2.2.1 ≤ 2560) (h : RC w σ) (hm : RM w σ) (ok : okS σ) (ha : 0 ≤ a ∧ a + 4 < (Γ.2.2.2.2.2.1 : Int)) (next : Nx Γ Ret a) : G Γ m_L_law Ret 78 1547 307 [some (vR 999), some (vR 0), some (vR 63), some (vI a)] [] w := by
  have s0 := h.1.1.1
  refine k_L_law_307 (c_cut h ok (sm_of _)) (fun z u hu => ?_)
  obtain ⟨rfl, hc, hf⟩ := hu
  have hm1 := hm.fc hf
  have s63 := hm1.1.1.1.1
  refine k_L_law_316 (m_cut hm1 ok (sm_of _)) (fun z v hv => ?_)
  obtain ⟨rfl, hm2, hf2⟩ := hv
  exact G_same (tgt := 797) dL_law_325 (by decide) (k_L_law_797 (next v _ (hc.fm hf2) hm2 (ok_cut ok)))
theorem law_hook (hL : Γ.2.2.2.2.2.1 ≤ 2560) (h : RC w σ) (hm : RM w σ) (ok : okS σ) (ha : 0 ≤ a ∧ a + 4 < (Γ.2.2.2.2.2.1 : Int)) (next : Nx Γ Ret a) : G Γ m_L_law Ret 78 1547 330 [some (vR 999), some (vR 0), some (vR 63), some (vI a)] [] w := by
  have s0 := h.1.1.1
  refine k_L_law_330 (c_hook h ok (sm_of _) (sm_of _)) (fun z u hu => ?_)
  obtain ⟨rfl, hc, hf⟩ := hu
  have hm1 := hm.fc hf
  have s63 := hm1.1.1.1.1
  refine k_L_law_344 (m_hook hm1 ok (sm_of _) (sm_of _)) (fun z v hv => ?_)
  obtain ⟨rfl, hm2, hf2⟩ := hv
  exact G_same (tgt := 797) dL_law_358 (by decide) (k_L_law_797 (next v _ (hc.fm hf2) hm2 (ok_hook ok)))
theorem law_letGo (hL : Γ.2.2.2.2.2.1 ≤ 2560) (h : RC w σ) (hm : RM w σ) (ok : okS σ) (ha : 0 ≤ a ∧ a + 4 < (Γ.2.2.2.2.2.1 : Int)) (next : Nx Γ Ret a) : G Γ m_L_law Ret 78 1547 363 [some (vR 999), some (vR 0), some (vR 63), some (vI a)] [] w := by
  have s0 := h.1.1.1
  refine k_L_law_363 (c_letGo h ok (sm_of _)) (fun z u hu => ?_)
  obtain ⟨rfl, hc, hf⟩ := hu
  have hm1 := hm.fc hf
  have s63 := hm1.1.1.1.1
  refine k_L_law_372 (m_letGo hm1 ok (sm_of _)) (fun z v hv => ?_)
  obtain ⟨rfl, hm2, hf2⟩ := hv
  exact G_same (tgt := 797) dL_law_381 (by decide) (k_L_law_797 (next v _ (hc.fm hf2) hm2 (ok_letGo ok)))
theorem law_pass (hL : Γ.2.2.2.2.2.1 ≤ 2560) (h : RC w σ) (hm : RM w σ) (ok : okS σ) (ha : 0 ≤ a ∧ a + 4 < (Γ.2.2.2.2.2.1 : Int)) (next : Nx Γ Ret a) : G Γ m_L_law Ret 78 1547 386 [some (vR 999), some (vR 0), some (vR 63), some (vI a)] [] w := by
  have s0 := h.1.1.1
  refine k_L_law_386 (c_pass h ok (sm_of _)) (fun z u hu => ?_)
  obtain ⟨rfl, hc, hf⟩ := hu
  have hm1 := hm.fc hf
  have s63 := hm1.1.1.1.1
  refine k_L_law_395 (m_pass hm1 ok (sm_of _)) (fun z v hv => ?_)
  obtain ⟨rfl, hm2, hf2⟩ := hv
  exact G_same (tgt := 797) dL_law_404 (by decide) (k_L_law_797 (next v _ (hc.fm hf2) hm2 (ok_pass ok)))
theorem law_undo (hL : Γ.2.2.2.2.2.1 ≤ 2560) (h : RC w σ) (hm : RM w σ) (ok : okS σ) (ha : 0 ≤ a ∧ a + 4 < (Γ.2.2.2.2.2.1 : Int)) (next : Nx Γ Ret a) : G Γ m_L_law Ret 78 1547 409 [some (vR 999), some (vR 0), some (vR 63), some (vI a)] [] w := by
  have s0 := h.1.1.1
  refine k_L_law_409 (c_undo h ok) (fun z u hu => ?_)
  obtain ⟨rfl, hc, hf⟩ := hu
  have hm1 := hm.fc hf
  have s63 := hm1.1.1.1.1
  refine k_L_law_413 (m_undo hm1 ok) (fun z v hv => ?_)
  obtain ⟨rfl, hm2, hf2⟩ := hv
  exact G_same (tgt := 797) dL_law_417 (by decide) (k_L_law_797 (next v _ (hc.fm hf2) hm2 (ok_undo ok)))
theorem law_plan (hL : Γ.2.2.2.2.2.1 ≤ 2560) (h : RC w σ) (hm : RM w σ) (ok : okS σ) (ha : 0 ≤ a ∧ a + 4 < (Γ.2.2.2.2.2.1 : Int)) (next : Nx Γ Ret a) : G Γ m_L_law Ret 78 1547 422 [some (vR 999), some (vR 0), some (vR 63), some (vI a)] [] w := by
  have s0 := h.1.1.1
  refine k_L_law_422 (c_plan h ok (sm_of _)) (fun z u hu => ?_)
  obtain ⟨rfl, hc, hf⟩ := hu
  have hm1 := hm.fc hf
  have s63 := hm1.1.1.1.1
  refine k_L_law_431 (m_plan hm1 ok (sm_of _)) (fun z v hv => ?_)
  obtain ⟨rfl, hm2, hf2⟩ := hv
  exact G_same (tgt := 797) dL_law_440 (by decide) (k_L_law_797 (next v σ (hc.fm hf2) hm2 ok))
theorem law_order (hL : Γ.2.2.2.2.2.1 ≤ 2560) (h : RC w σ) (hm : RM w σ) (ok : okS σ) (ha : 0 ≤ a ∧ a + 4 < (Γ.2.2.2.2.2.1 : Int)) (next : Nx Γ Ret a) : G Γ m_L_law Ret 78 1547 445 [some (vR 999), some (vR 0), some (vR 63), some (vI a)] [] w := by
  have s0 := h.1.1.1
  refine k_L_law_445 (c_order h ok (sm_of _)) (fun z u hu => ?_)
  obtain ⟨rfl, hc, hf⟩ := hu
  have hm1 := hm.fc hf
  have s63 := hm1.1.1.1.1
  refine k_L_law_454 (m_order hm1 ok (sm_of _)) (fun z v hv => ?_)
  obtain ⟨rfl, hm2, hf2⟩ := hv
  exact G_same (tgt := 797) dL_law_463 (by decide) (k_L_law_797 (next v σ (hc.fm hf2) hm2 ok))
theorem law_kickFor (hL : Γ.2.2.2.2.2.1 ≤ 2560) (h : RC w σ) (hm : RM w σ) (ok : okS σ) (ha : 0 ≤ a ∧ a + 4 < (Γ.2.2.2.2.2.1 : Int)) (next : Nx Γ Ret a) : G Γ m_L_law Ret 78 1547 468 [some (vR 999), some (vR 0), some (vR 63), some (vI a)] [] w := by
  have s0 := h.1.1.1
  refine k_L_law_468 (c_kickFor h ok (sm_of _) (sm_of _)) (fun z u hu => ?_)
  obtain ⟨rfl, hc, hf⟩ := hu
  have hm1 := hm.fc hf
  have s63 := hm1.1.1.1.1
  refine k_L_law_482 (m_kickFor hm1 ok (sm_of _) (sm_of _)) (fun z v hv => ?_)
  obtain ⟨rfl, hm2, hf2⟩ := hv
  exact G_same (tgt := 797) dL_law_496 (by decide) (k_L_law_797 (next v σ (hc.fm hf2) hm2 ok))
theorem law_waves (hL : Γ.2.2.2.2.2.1 ≤ 2560) (h : RC w σ) (hm : RM w σ) (ok : okS σ) (ha : 0 ≤ a ∧ a + 4 < (Γ.2.2.2.2.2.1 : Int)) (next : Nx Γ Ret a) : G Γ m_L_law Ret 78 1547 501 [some (vR 999), some (vR 0), some (vR 63), some (vI a)] [] w := by
  have s0 := h.1.1.1
  refine k_L_law_501 (c_waves h ok) (fun z u hu => ?_)
  obtain ⟨rfl, hc, hf⟩ := hu
  have hm1 := hm.fc hf
  have s63 := hm1.1.1.1.1
  refine k_L_law_505 (m_waves hm1 ok) (fun z v hv => ?_)
  obtain ⟨rfl, hm2, hf2⟩ := hv
  exact G_same (tgt := 797) dL_law_509 (by decide) (k_L_law_797 (next v σ (hc.fm hf2) hm2 ok))
theorem law_longest (hL : Γ.2.2.2.2.2.1 ≤ 2560) (h : RC w σ) (hm : RM w σ) (ok : okS σ) (ha : 0 ≤ a ∧ a + 4 < (Γ.2.2.2.2.2.1 : Int)) (next : Nx Γ Ret a) : G Γ m_L_law Ret 78 1547 514 [some (vR 999), some (vR 0), some (vR 63), some (vI a)] [] w := by
  have s0 := h.1.1.1
  refine k_L_law_514 (c_longest h ok) (fun z u hu => ?_)
  obtain ⟨rfl, hc, hf⟩ := hu
  have hm1 := hm.fc hf
  have s63 := hm1.1.1.1.1
  refine k_L_law_518 (m_longest hm1 ok) (fun z v hv => ?_)
  obtain ⟨rfl, hm2, hf2⟩ := hv
  exact G_same (tgt := 797) dL_law_522 (by decide) (k_L_law_797 (next v σ (hc.fm hf2) hm2 ok))
theorem law_seen (hL : Γ.2.2.2.2.2.1 ≤ 2560) (h : RC w σ) (hm : RM w σ) (ok : okS σ) (ha : 0 ≤ a ∧ a + 4 < (Γ.2.2.2.2.2.1 : Int)) (next : Nx Γ Ret a) : G Γ m_L_law Ret 78 1547 527 [some (vR 999), some (vR 0), some (vR 63), some (vI a)] [] w := by
  have s0 := h.1.1.1
  refine k_L_law_527 (c_seen h ok (sm_of _) (sm_of _)) (fun z u hu => ?_)
  obtain ⟨rfl, hc, hf⟩ := hu
  have hm1 := hm.fc hf
  have s63 := hm1.1.1.1.1
  refine k_L_law_541 (m_seen hm1 ok (sm_of _) (sm_of _)) (fun z v hv => ?_)
  obtain ⟨rfl, hm2, hf2⟩ := hv
  exact G_same (tgt := 797) dL_law_555 (by decide) (k_L_law_797 (next v _ (hc.fm hf2) hm2 (ok_seen ok)))
theorem law_forget (hL : Γ.2.2.2.2.2.1 ≤ 2560) (h : RC w σ) (hm : RM w σ) (ok : okS σ) (ha : 0 ≤ a ∧ a + 4 < (Γ.2.2.2.2.2.1 : Int)) (next : Nx Γ Ret a) : G Γ m_L_law Ret 78 1547 560 [some (vR 999), some (vR 0), some (vR 63), some (vI a)] [] w := by
  have s0 := h.1.1.1
  refine k_L_law_560 (c_forget h) (fun z u hu => ?_)
  obtain ⟨rfl, hc, hf⟩ := hu
  have hm1 := hm.fc hf
  have s63 := hm1.1.1.1.1
  refine k_L_law_564 (m_forget hm1) (fun z v hv => ?_)
  obtain ⟨rfl, hm2, hf2⟩ := hv
  exact G_same (tgt := 797) dL_law_568 (by decide) (k_L_law_797 (next v _ (hc.fm hf2) hm2 (ok_forget ok)))
theorem law_may (hL : Γ.2.2.2.2.2.1 ≤ 2560) (h : RC w σ) (hm : RM w σ) (ok : okS σ) (ha : 0 ≤ a ∧ a + 4 < (Γ.2.2.2.2.2.1 : Int)) (next : Nx Γ Ret a) : G Γ m_L_law Ret 78 1547 573 [some (vR 999), some (vR 0), some (vR 63), some (vI a)] [] w := by
  have s0 := h.1.1.1
  refine k_L_law_573 (c_may h ok (sm_of _)) (fun z u hu => ?_)
  obtain ⟨rfl, hc, hf⟩ := hu
  have hm1 := hm.fc hf
  have s63 := hm1.1.1.1.1
  refine k_L_law_582 (m_may hm1 ok (sm_of _)) (fun z v hv => ?_)
  obtain ⟨rfl, hm2, hf2⟩ := hv
  exact G_same (tgt := 797) dL_law_591 (by decide) (k_L_law_797 (next v σ (hc.fm hf2) hm2 ok))
theorem law_hall (hL : Γ.2.2.2.2.2.1 ≤ 2560) (h : RC w σ) (hm : RM w σ) (ok : okS σ) (ha : 0 ≤ a ∧ a + 4 < (Γ.2.2.2.2.2.1 : Int)) (next : Nx Γ Ret a) : G Γ m_L_law Ret 78 1547 596 [some (vR 999), some (vR 0), some (vR 63), some (vI a)] [] w := by
  have s0 := h.1.1.1
  refine k_L_law_596 (c_hall h ok (sm_of _) (sm_of _)) (fun z u hu => ?_)
  obtain ⟨rfl, hc, hf⟩ := hu
  have hm1 := hm.fc hf
  have s63 := hm1.1.1.1.1
  refine k_L_law_610 (m_hall hm1 ok (sm_of _) (sm_of _)) (fun z v hv => ?_)
  obtain ⟨rfl, hm2, hf2⟩ := hv
  exact G_same (tgt := 797) dL_law_624 (by decide) (k_L_law_797 (next v σ (hc.fm hf2) hm2 ok))
theorem law_left (hL : Γ.2.2.2.2.2.1 ≤ 2560) (h : RC w σ) (hm : RM w σ) (ok : okS σ) (ha : 0 ≤ a ∧ a + 4 < (Γ.2.2.2.2.2.1 : Int)) (next : Nx Γ Ret a) : G Γ m_L_law Ret 78 1547 629 [some (vR 999), some (vR 0), some (vR 63), some (vI a)] [] w := by
  have s0 := h.1.1.1
  refine k_L_law_629 (c_left h ok (sm_of _)) (fun z u hu => ?_)
  obtain ⟨rfl, hc, hf⟩ := hu
  have hm1 := hm.fc hf
  have s63 := hm1.1.1.1.1
  refine k_L_law_638 (m_left hm1 ok (sm_of _)) (fun z v hv => ?_)
  obtain ⟨rfl, hm2, hf2⟩ := hv
  exact G_same (tgt := 797) dL_law_647 (by decide) (k_L_law_797 (next v σ (hc.fm hf2) hm2 ok))
theorem law_likely (hL : Γ.2.2.2.2.2.1 ≤ 2560) (h : RC w σ) (hm : RM w σ) (ok : okS σ) (ha : 0 ≤ a ∧ a + 4 < (Γ.2.2.2.2.2.1 : Int)) (next : Nx Γ Ret a) : G Γ m_L_law Ret 78 1547 652 [some (vR 999), some (vR 0), some (vR 63), some (vI a)] [] w := by
  have s0 := h.1.1.1
  refine k_L_law_652 (c_likely h ok (sm_of _) (sm_of _) (sm_of _) (sm_of _)) (fun z u hu => ?_)
  obtain ⟨rfl, hc, hf⟩ := hu
  have hm1 := hm.fc hf
  have s63 := hm1.1.1.1.1
  refine k_L_law_676 (m_likely hm1 ok (sm_of _) (sm_of _) (sm_of _) (sm_of _)) (fun z v hv => ?_)
  obtain ⟨rfl, hm2, hf2⟩ := hv
  exact G_same (tgt := 797) dL_law_700 (by decide) (k_L_law_797 (next v σ (hc.fm hf2) hm2 ok))
theorem law_year (hL : Γ.2.2.2.2.2.1 ≤ 2560) (h : RC w σ) (hm : RM w σ) (ok : okS σ) (ha : 0 ≤ a ∧ a + 4 < (Γ.2.2.2.2.2.1 : Int)) (next : Nx Γ Ret a) : G Γ m_L_law Ret 78 1547 705 [some (vR 999), some (vR 0), some (vR 63), some (vI a)] [] w := by
  have s0 := h.1.1.1
  refine k_L_law_705 (c_year h ok (sm_of _) (sm_of _) (sm_of _)) (fun z u hu => ?_)
  obtain ⟨rfl, hc, hf⟩ := hu
  have hm1 := hm.fc hf
  have s63 := hm1.1.1.1.1
  refine k_L_law_724 (m_year hm1 ok (sm_of _) (sm_of _) (sm_of _)) (fun z v hv => ?_)
  obtain ⟨rfl, hm2, hf2⟩ := hv
  exact G_same (tgt := 797) dL_law_743 (by decide) (k_L_law_797 (next v σ (hc.fm hf2) hm2 ok))
theorem law_keep (hL : Γ.2.2.2.2.2.1 ≤ 2560) (h : RC w σ) (hm : RM w σ) (ok : okS σ) (ha : 0 ≤ a ∧ a + 4 < (Γ.2.2.2.2.2.1 : Int)) (next : Nx Γ Ret a) : G Γ m_L_law Ret 78 1547 748 [some (vR 999), some (vR 0), some (vR 63), some (vI a)] [] w := by
  have s0 := h.1.1.1
  refine k_L_law_748 (c_keep h ok) (fun z u hu => ?_)
  obtain ⟨rfl, hc, hf⟩ := hu
  have hm1 := hm.fc hf
  have s63 := hm1.1.1.1.1
  refine k_L_law_752 (m_keep hm1 ok) (fun z v hv => ?_)
  obtain ⟨rfl, hm2, hf2⟩ := hv
  exact G_same (tgt := 797) dL_law_756 (by decide) (k_L_law_797 (next v _ (hc.fm hf2) hm2 (ok_keep ok)))
theorem law_back (hL : Γ.2.2.2.2.2.1 ≤ 2560) (h : RC w σ) (hm : RM w σ) (ok : okS σ) (ha : 0 ≤ a ∧ a + 4 < (Γ.2.2.2.2.2.1 : Int)) (next : Nx Γ Ret a) : G Γ m_L_law Ret 78 1547 761 [some (vR 999), some (vR 0), some (vR 63), some (vI a)] [] w := by
  have s0 := h.1.1.1
  refine k_L_law_761 (c_back h ok) (fun z u hu => ?_)
  obtain ⟨rfl, hc, hf⟩ := hu
  have hm1 := hm.fc hf
  have s63 := hm1.1.1.1.1
  refine k_L_law_765 (m_back hm1 ok) (fun z v hv => ?_)
  obtain ⟨rfl, hm2, hf2⟩ := hv
  exact G_same (tgt := 797) dL_law_769 (by decide) (k_L_law_797 (next v _ (hc.fm hf2) hm2 (ok_back ok)))
theorem law_count (hL : Γ.2.2.2.2.2.1 ≤ 2560) (h : RC w σ) (hm : RM w σ) (ok : okS σ) (ha : 0 ≤ a ∧ a + 4 < (Γ.2.2.2.2.2.1 : Int)) (next : Nx Γ Ret a) : G Γ m_L_law Ret 78 1547 774 [some (vR 999), some (vR 0), some (vR 63), some (vI a)] [] w := by
  have s0 := h.1.1.1
  refine k_L_law_774 (c_count h ok (sm_of _)) (fun z u hu => ?_)
  obtain ⟨rfl, hc, hf⟩ := hu
  have hm1 := hm.fc hf
  have s63 := hm1.1.1.1.1
  refine k_L_law_783 (m_count hm1 ok (sm_of _)) (fun z v hv => ?_)
  obtain ⟨rfl, hm2, hf2⟩ := hv
  exact G_same (tgt := 797) dL_law_792 (by decide) (k_L_law_797 (next v σ (hc.fm hf2) hm2 ok))
theorem law_loop (hL : Γ.2.2.2.2.2.1 ≤ 2560) (kr : ∀ u, Ret (some (vI 1)) u) : ∀ (n : Nat) (a : Int) (w : Wd) (σ : Sg), (0 ≤ a ∧ a ≤ 2600) → (Γ.2.2.2.2.2.1 : Int) - 4 ≤ a + 5 * n → RC w σ → RM w σ → okS σ → G Γ m_L_law Ret 78 1547 18 [some (vR 999), some (vR 0), some (vR 63), some (vI a)] [] w := by
  have fin : ∀ (a : Int) (w : Wd), G Γ m_L_law Ret 78 1547 803 [some (vR 999), some (vR 0), some (vR 63), some (vI a)] [] w := fun a w => by
    refine G_const dL_law_803 ?_
    exact G_retL (some (vI 1)) dL_law_804 (Or.inr rfl) ⟨rfl, by decide, by decide⟩ (kr w)
  intro n
  induction n with
  | zero =>
    intro a w σ ha hn h hm ok
    exact k_L_law_18 (fun _ => fin a w) (fun q => absurd q (by omega))
  | succ n ih =>
    intro a w σ ha hn h hm ok
    by_cases q : (Γ.2.2.2.2.2.1 : Int) - 5 < a
    · exact k_L_law_18 (fun _ => fin a w) (fun r => absurd q r)
    · have next : Nx Γ Ret a := fun u σ' h1 h2 h3 => ih (a + 5) u σ' (by omega) (by omega) h1 h2 h3
      have hb : 0 ≤ a ∧ a + 4 < (Γ.2.2.2.2.2.1 : Int) := by omega
      refine k_L_law_18 (fun r => absurd r q) (fun _ => ?_)
      exact k_L_law_26 (fun _ => law_write hL h hm ok hb next) (fun _ => law_wipe hL h hm ok hb next) (fun _ => law_fault hL h hm ok hb next) (fun _ => law_lay hL h hm ok hb next) (fun _ => law_strip hL h hm ok hb next) (fun _ => law_wall hL h hm ok hb next) (fun _ => law_damp hL h hm ok hb next) (fun _ => law_cut hL h hm ok hb next) (fun _ => law_hook hL h hm ok hb next) (fun _ => law_letGo hL h hm ok hb next) (fun _ => law_pass hL h hm ok hb next) (fun _ => law_undo hL h hm ok hb next) (fun _ => law_plan hL h hm ok hb next) (fun _ => law_order hL h hm ok hb next) (fun _ => law_kickFor hL h hm ok hb next) (fun _ => law_waves hL h hm ok hb next) (fun _ => law_longest hL h hm ok hb next) (fun _ => law_seen hL h hm ok hb next) (fun _ => law_forget hL h hm ok hb next) (fun _ => law_may hL h hm ok hb next) (fun _ => law_hall hL h hm ok hb next) (fun _ => law_left hL h hm ok hb next) (fun _ => law_likely hL h hm ok hb next) (fun _ => law_year hL h hm ok hb next) (fun _ => law_keep hL h hm ok hb next) (fun _ => law_back hL h hm ok hb next) (fun _ => law_count hL h hm ok hb next) (fun _ => k_L_law_797 (next w σ h hm ok))
theorem law_all (hL : Γ.2.2.2.2.2.1 ≤ 2560) : G Γ m_L_law (fun v _ => v = some (vI 1)) 0 0 0 [some (vR 999), none, none, none] [] (0, fun _ _ => 0, fun _ _ => .null) := by
  refine k_L_law_0 (h1 := rfl) (h4 := rfl) (sp_X6_init (w := nwW (0, fun _ _ => 0, fun _ _ => .null)) rfl (fun k => rfl)) (fun u hu => ?_)
  obtain ⟨hC, e1⟩ := hu
  obtain ⟨n, f, g⟩ := u
  have hn : n = 63 := e1
  subst hn
  refine k_L_law_7 (t0 := 0) (h1 := rfl) (h4 := rfl) (sp_X7_init (w := nwW (63, f, g)) rfl (fun k => rfl)) (fun v hv => ?_)
  obtain ⟨hM, e2, hG⟩ := hv
  have hG2 : Gq (fun a => a < 63) (63, f, g) v := (Gq.nw (fun a ha => ha)).trans hG
  exact k_L_law_15 (law_loop hL (fun _ => rfl) 600 0 v sig0 (by omega) (by omega) (hC.gq hG2) hM sig0_ok)
end

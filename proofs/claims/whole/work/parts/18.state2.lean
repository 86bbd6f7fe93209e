section
variable {Γ : Gm} {w : Wd}
def ClsS (w : Wd) : Prop := (sh w 0 = some (.inr 6) ∧ sh w 1 = some (.inl (1, 200)) ∧ sh w 54 = some (.inr 5) ∧ sh w 55 = some (.inl (0, 6)) ∧ sh w 56 = some (.inl (0, 6)) ∧ sh w 57 = some (.inr 1) ∧ sh w 58 = some (.inl (0, 13)) ∧ sh w 59 = some (.inl (0, 13)) ∧ sh w 60 = some (.inl (0, 13)) ∧ sh w 61 = some (.inr 2)) ∧
  (wR w 0 0 = vR 1 ∧ wR w 0 4 = vR 14 ∧ wR w 0 5 = vR 17 ∧ wR w 0 6 = vR 20 ∧ wR w 0 7 = vR 46 ∧ wR w 0 8 = vR 54 ∧ wR w 0 9 = vR 57 ∧ wR w 0 10 = vR 61) ∧ (wR w 54 0 = vR 55 ∧ wR w 54 1 = vR 56 ∧ wR w 57 0 = vR 58 ∧ wR w 57 1 = vR 59 ∧ wR w 57 2 = vR 60) ∧ CarS w 17
theorem ClsS.fr {P : Nat → Prop} {w u : Wd} (h : ClsS w) (g : Fr P w u) : ClsS u := by
  have h17 := h.2.2.2.fr g
  unfold ClsS at h ⊢
  simp only [g.sh, g.2.2]
  exact ⟨h.1, h.2.1, h.2.2.1, h17⟩
def RpC (w : Wd) (ρ : Rm) : Prop := ∃ rp dp : Nat, ((rp = 2 ∧ dp = 8) ∨ (rp = 8 ∧ dp = 2)) ∧ wR w 0 2 = vR rp ∧ wR w 0 3 = vR dp ∧ RoomC w rp ρ ∧ RoomS w dp
def TxC (w : Wd) (t : Int × (Int → Int)) : Prop := wI w 0 1 = t.1 ∧ ∀ k : Int, 0 ≤ k → k < t.1 → wI w 1 k = t.2 k
def SiC (w : Wd) (v : Int × (Int → Int) × (Int → Int)) : Prop := wI w 54 2 = v.1 ∧ ∀ k : Int, 0 ≤ k → k < v.1 → wI w 55 k = v.2.1 k ∧ wI w 56 k = v.2.2 k
/-- the class's half -/
def RC (w : Wd) (σ : Sg) : Prop := ClsS w ∧ RpC w (gR σ) ∧ TxC w σ.1 ∧ CarC w 14 (gR σ) (gK σ) ∧ ShC w 20 8 (gR σ) (gU σ) ∧ ShC w 46 2 (gR σ) (gE σ) ∧ SiC w (gV σ)
def TxM (w : Wd) (t : Int × (Int → Int)) : Prop := wI w 63 0 = t.1 ∧ ∀ k : Int, 0 ≤ k → k < t.1 → wI w 64 k = t.2 k
def ShM (w : Wd) (f : Int) (a : Nat) (ρ : Rm) (p : Int × (Int → Kp)) : Prop := wI w 63 f = p.1 ∧ ∀ j : Int, 0 ≤ j → j < p.1 → CarM w a (32 * j) ρ (p.2 j)
def SiM (w : Wd) (v : Int × (Int → Int) × (Int → Int)) : Prop := wI w 63 20 = v.1 ∧ ∀ k : Int, 0 ≤ k → k < v.1 → wI w 75 (2 * k) = v.2.1 k ∧ wI w 75 (2 * k + 1) = v.2.2 k
/-- the model's half -/
def RM (w : Wd) (σ : Sg) : Prop := RoomM w (gR σ) ∧ TxM w σ.1 ∧ CarA w 71 (gR σ) (gK σ) ∧ ShM w 17 73 (gR σ) (gU σ) ∧ ShM w 19 74 (gR σ) (gE σ) ∧ SiM w (gV σ)
theorem RpC.fr {P : Nat → Prop} {w u : Wd} {ρ : Rm} (h : RpC w ρ) (g : Fr P w u) (hp : ∀ a, 2 ≤ a → a ≤ 13 → ¬ P a) : RpC u ρ := by
  obtain ⟨rp, dp, h0, h1, h2, h3, h4⟩ := h
  refine ⟨rp, dp, h0, by rw [g.2.2]; exact h1, by rw [g.2.2]; exact h2, h3.fr g (fun a a1 a2 => hp a ?_ ?_), h4.fr g⟩
  · rcases h0 with q | q <;> omega
  · rcases h0 with q | q <;> omega
theorem TxC.fr {P : Nat → Prop} {w u : Wd} {t : Int × (Int → Int)} (h : TxC w t) (g : Fr P w u) (hp : ¬ P 0 ∧ ¬ P 1) : TxC u t := by
  unfold TxC at h ⊢
  simp only [g.2.1 _ hp.1, g.2.1 _ hp.2]
  exact h
theorem SiC.fr {P : Nat → Prop} {w u : Wd} {t : Int × (Int → Int) × (Int → Int)} (h : SiC w t) (g : Fr P w u) (hp : ¬ P 54 ∧ ¬ P 55 ∧ ¬ P 56) : SiC u t := by
  unfold SiC at h ⊢
  simp only [g.2.1 _ hp.1, g.2.1 _ hp.2.1, g.2.1 _ hp.2.2]
  exact h
/-- the class's half when only cells at or above 14 and below 54 have changed -/
theorem RC.act {P : Nat → Prop} {w u : Wd} {σ : Sg} {κ : Kp} {p e : Int × (Int → Kp)} (h : RC w σ) (g : Fr P w u) (hp : ∀ a, P a → 14 ≤ a ∧ a ≤ 53) (hC : CarC u 14 (gR σ) κ) (hU : ShC u 20 8 (gR σ) p) (hE : ShC u 46 2 (gR σ) e) : RC u (σ.1, gR σ, κ, p, e, gV σ) := by
  obtain ⟨h0, h1, h2, h3, h4, h5, h6⟩ := h
  have hn : ∀ a, ¬ (14 ≤ a ∧ a ≤ 53) → ¬ P a := fun a q r => q (hp a r)
  exact ⟨h0.fr g, h1.fr g (fun a a1 a2 => hn a (by omega)), h2.fr g ⟨hn 0 (by omega), hn 1 (by omega)⟩, hC, hU, hE, h6.fr g ⟨hn 54 (by omega), hn 55 (by omega), hn 56 (by omega)⟩⟩
theorem RC.fm {w u : Wd} {σ : Sg} (h : RC w σ) (g : Fr (fun a => 63 ≤ a) w u) : RC u σ := by
  obtain ⟨h0, h1, h2, h3, h4, h5, h6⟩ := h
  exact ⟨h0.fr g, h1.fr g (fun a a1 a2 => by omega), h2.fr g ⟨by decide, by decide⟩, h3.fr g (fun a a1 a2 => by omega), h4.fr g (fun a a1 a2 => by omega) (by omega), h5.fr g (fun a a1 a2 => by omega) (by omega), h6.fr g ⟨by decide, by decide, by decide⟩⟩
/-- nothing of the model's has changed -/
def FC (w u : Wd) : Prop := u.1 = w.1 ∧ (∀ a, 63 ≤ a → ∀ k, wI u a k = wI w a k) ∧ ∀ a, 63 ≤ a → ∀ k, wR u a k = wR w a k
theorem Fr.fc {P : Nat → Prop} {w u : Wd} (g : Fr P w u) (hp : ∀ a, P a → a < 63) : FC w u := ⟨g.1, fun a ha k => g.2.1 a (fun q => by have := hp a q; omega) k, fun a _ k => g.2.2 a k⟩
theorem FC.rfl {w : Wd} : FC w w := ⟨Eq.refl _, fun _ _ _ => Eq.refl _, fun _ _ _ => Eq.refl _⟩
theorem FC.trans {w u v : Wd} (h : FC w u) (g : FC u v) : FC w v := ⟨g.1.trans h.1, fun a ha k => (g.2.1 a ha k).trans (h.2.1 a ha k), fun a ha k => (g.2.2 a ha k).trans (h.2.2 a ha k)⟩
theorem RM.fc {w u : Wd} {σ : Sg} (h : RM w σ) (g : FC w u) : RM u σ := by
  have hs : ∀ a, sh u a = sh w a := fun a => by show (if a < u.1 then shp[a]? else none) = if a < w.1 then shp[a]? else none; rw [g.1]
  have q63 := g.2.1 63 (by decide)
  have q64 := g.2.1 64 (by decide)
  have q68 := g.2.1 68 (by decide)
  have q69 := g.2.1 69 (by decide)
  have q70 := g.2.1 70 (by decide)
  have q71 := g.2.1 71 (by decide)
  have q73 := g.2.1 73 (by decide)
  have q74 := g.2.1 74 (by decide)
  have q75 := g.2.1 75 (by decide)
  have r63 := g.2.2 63 (by decide)
  unfold RM RoomM ModS TxM CarA ShM CarM SiM at h ⊢
  simp only [hs, q63, q64, q68, q69, q70, q71, q73, q74, q75, r63]
  exact h
theorem TxM.fr {P : Nat → Prop} {w u : Wd} {t : Int × (Int → Int)} (h : TxM w t) (g : Fr P w u) (h0 : wI u 63 0 = wI w 63 0) (hp : ¬ P 64) : TxM u t := by
  unfold TxM at h ⊢
  simp only [h0, g.2.1 _ hp]
  exact h
theorem SiM.fr {P : Nat → Prop} {w u : Wd} {t : Int × (Int → Int) × (Int → Int)} (h : SiM w t) (g : Fr P w u) (h0 : wI u 63 20 = wI w 63 20) (hp : ¬ P 75) : SiM u t := by
  unfold SiM at h ⊢
  simp only [h0, g.2.1 _ hp]
  exact h
theorem ShM.fr {P : Nat → Prop} {w u : Wd} {f : Int} {a : Nat} {ρ : Rm} {p : Int × (Int → Kp)} (h : ShM w f a ρ p) (g : Fr P w u) (h0 : wI u 63 f = wI w 63 f) (hp : ¬ P a) : ShM u f a ρ p := ⟨h0.trans h.1, fun j x y => (h.2 j x y).fr g hp⟩
/-- the model's half when only 71 to 74, the scratch, and the two counts have changed -/
theorem RM.act {P : Nat → Prop} {w u : Wd} {σ : Sg} {κ : Kp} {p e : Int × (Int → Kp)} (h : RM w σ) (g : Fr P w u) (hp : ∀ a, P a → a = 63 ∨ (71 ≤ a ∧ a ≤ 74) ∨ a = 76 ∨ a = 77) (hk : ∀ k, k = 0 ∨ k = 9 ∨ k = 10 ∨ k = 20 → wI u 63 k = wI w 63 k) (hC : CarA u 71 (gR σ) κ) (hU : ShM u 17 73 (gR σ) p) (hE : ShM u 19 74 (gR σ) e) : RM u (σ.1, gR σ, κ, p, e, gV σ) := by
  obtain ⟨h0, h1, h2, h3, h4, h5⟩ := h
  have hn : ∀ a, ¬ (a = 63 ∨ (71 ≤ a ∧ a ≤ 74) ∨ a = 76 ∨ a = 77) → ¬ P a := fun a q r => q (hp a r)
  exact ⟨h0.fr g ⟨hk 9 (by omega), hk 10 (by omega)⟩ ⟨hn _ (by omega), hn _ (by omega), hn _ (by omega)⟩, h1.fr g (hk 0 (by omega)) (hn _ (by omega)), hC, hU, hE, h5.fr g (hk 20 (by omega)) (hn _ (by omega))⟩
/-- the scratch alone -/
theorem RM.scr {P : Nat → Prop} {w u : Wd} {σ : Sg} (h : RM w σ) (g : Fr P w u) (hp : ∀ a, P a → a = 65 ∨ a = 66 ∨ a = 67 ∨ a = 72 ∨ a = 76 ∨ a = 77) : RM u σ := by
  have hn : ∀ a, ¬ (a = 65 ∨ a = 66 ∨ a = 67 ∨ a = 72 ∨ a = 76 ∨ a = 77) → ¬ P a := fun a q r => q (hp a r)
  obtain ⟨h0, h1, h2, h3, h4, h5⟩ := h
  have e := g.2.1 63 (hn 63 (by omega))
  exact ⟨h0.fr g ⟨e _, e _⟩ ⟨hn _ (by omega), hn _ (by omega), hn _ (by omega)⟩, h1.fr g (e _) (hn _ (by omega)), h2.fr g (hn _ (by omega)), h3.fr g (e _) (hn _ (by omega)), h4.fr g (e _) (hn _ (by omega)), h5.fr g (e _) (hn _ (by omega))⟩
-- what each call answers, and the state behind it
def noteS (σ : Sg) (κ : Kp) : Sg := (σ.1, gR σ, κ, pushP 8 (gU σ) (gK σ), gE σ, gV σ)
def fWrite (σ : Sg) (a : Int) : Int × Sg := if 32 ≤ a ∧ a ≤ 126 then (if gN σ < 200 then (gN σ + 1, ((gN σ + 1, upI σ.1.2 (gN σ) a), σ.2)) else (-3, σ)) else (-1, σ)
def fWipe (σ : Sg) : Int × Sg := (gN σ, ((0, σ.1.2), σ.2))
def fStrip (σ : Sg) (s k : Int) : Int := if 0 ≤ s ∧ s ≤ rS (gR σ) 0 - 1 then (if k = 0 then rL (gR σ) s else if k = 1 then rG (gR σ) s else if k = 2 then rT (gR σ) s else if k = 3 then lov (gK σ) s else if k = 4 then seamK (gK σ) s else -1) else -1
def fWall (σ : Sg) (i k : Int) : Int := if 0 ≤ i ∧ i ≤ 3 then (if k = 0 then kT (gK σ) i else if k = 1 then bit (kH (gK σ)) i else if k = 2 then bit (kN (gK σ)) i else if k = 3 then (if bit (kH (gK σ)) i = 0 then 0 else if 2 ≤ kT (gK σ) i then 0 else 1) else -1) else -1
def fDamp (σ : Sg) (m : Int) : Int := if 0 ≤ m ∧ m ≤ 999 then dmp (gR σ) m else -1
def fCut (σ : Sg) (b : Int) : Int × Sg := if 1 ≤ b ∧ b ≤ 6 then (if cutOk (gR σ) (gK σ) b then (lenF (gR σ) (covK (gK σ)) b, noteS σ (cutK (gK σ) b)) else (-2, σ)) else (-1, σ)
def fHook (σ : Sg) (i f : Int) : Int × Sg := if (0 ≤ i ∧ i ≤ 3) ∧ 0 ≤ f ∧ f ≤ 20 then (if covK (gK σ) = rS (gR σ) 0 ∧ freeK (gK σ) i then (if tby (gR σ) (gK σ) i f ≤ rS (gR σ) 5 then tby (gR σ) (gK σ) i f else 0, noteS σ (kick (gR σ) (gK σ) i f)) else (-2, σ)) else (-1, σ)
def fLetGo (σ : Sg) (i : Int) : Int × Sg := if 0 ≤ i ∧ i ≤ 3 then (if bit (kH (gK σ)) i = 0 then (-2, σ) else (kT (gK σ) i, noteS σ (goK (gK σ) i))) else (-1, σ)
def monN (ρ : Rm) (κ : Kp) : Nat → Kp
  | 0 => κ
  | n + 1 => monK ρ (monN ρ κ n)
def fPass (σ : Sg) (n : Int) : Int × Sg := if 1 ≤ n ∧ n ≤ 60 then (if kM (gK σ) + n ≤ 999 then (kM (gK σ) + n, noteS σ (monN (gR σ) (gK σ) n.toNat)) else (-2, σ)) else (-1, σ)
def fUndo (σ : Sg) : Int × Sg := if (gU σ).1 = 0 then (-2, σ) else ((gU σ).1 - 1, (σ.1, gR σ, (gU σ).2 ((gU σ).1 - 1), popP (gU σ), gE σ, gV σ))
def fKickFor (σ : Sg) (i t : Int) : Int := if (0 ≤ i ∧ i ≤ 3) ∧ 0 ≤ t ∧ t ≤ 30 then (if freeK (gK σ) i then lk (gR σ) (gK σ) i t else -4) else -1
def fKeep (σ : Sg) : Int × Sg := if (gE σ).1 < 2 then ((gE σ).1 + 1, (σ.1, gR σ, gK σ, gU σ, pushP 2 (gE σ) (gK σ), gV σ)) else (-3, σ)
def fBack (σ : Sg) : Int × Sg := if (gE σ).1 = 0 then (-2, σ) else ((gE σ).1 - 1, (σ.1, gR σ, (gE σ).2 ((gE σ).1 - 1), (0, (gU σ).2), popP (gE σ), gV σ))
def fSeen (σ : Sg) (f v : Int) : Int × Sg := if (0 ≤ f ∧ f ≤ 20) ∧ 0 ≤ v ∧ v ≤ 40 then (if (gV σ).1 < 6 then ((gV σ).1 + 1, (σ.1, gR σ, gK σ, gU σ, gE σ, ((gV σ).1 + 1, upI (gV σ).2.1 (gV σ).1 f, upI (gV σ).2.2 (gV σ).1 v))) else (-3, σ)) else (-1, σ)
def fForget (σ : Sg) : Int × Sg := ((gV σ).1, (σ.1, gR σ, gK σ, gU σ, gE σ, (0, (gV σ).2)))
def fHall (σ : Sg) (a b : Int) : Int := if (1 ≤ a ∧ a ≤ 6) ∧ 1 ≤ b ∧ b ≤ 40 then (if hrF (gR σ) (gK σ) a b 0 (kC (gK σ)) = 0 then (if a ≤ rS (gR σ) 2 ∧ b ≤ rollK (gR σ) (gK σ) then 2 else 0) else 1) else -1
def fLeft (σ : Sg) (k : Int) : Int := if k = 0 then area (gR σ) (gK σ) else if k = 1 then rS (gR σ) 2 * rollK (gR σ) (gK σ) else -1
def fCount (σ : Sg) (k : Int) : Int := if k = 0 then rS (gR σ) 0 else if k = 1 then kC (gK σ) else if k = 2 then rollK (gR σ) (gK σ) else if k = 3 then max 0 ((kC (gK σ) : Int) - 1) else if k = 4 then bcn (kH (gK σ)) else if k = 5 then bcn (kN (gK σ)) else if k = 6 then kM (gK σ) else if k = 7 then (gV σ).1 else if k = 8 then (gU σ).1 else if k = 9 then (gE σ).1 else if k = 10 then gN σ else -1
end

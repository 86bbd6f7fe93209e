/-! ===== what the two sides are held against ===== -/
/-- a room: scalars (0 strips, 1 damps, 2 broad, 3 long, 4 over, 5 hooks, 6 kind, 7 gives), lengths, lights, treads, damps -/
abbrev Rm : Type := (Int → Int) × (Int → Int) × (Int → Int) × (Int → Int) × (Int → Int)
abbrev rS (ρ : Rm) (i : Int) : Int := ρ.1 i
abbrev rL (ρ : Rm) (i : Int) : Int := ρ.2.1 i
abbrev rG (ρ : Rm) (i : Int) : Int := ρ.2.2.1 i
abbrev rT (ρ : Rm) (i : Int) : Int := ρ.2.2.2.1 i
abbrev rD (ρ : Rm) (i : Int) : Int := ρ.2.2.2.2 i
/-- a carpet: lengths cut, their breadths, how tight, hooked, torn, month -/
abbrev Kp : Type := Nat × (Int → Int) × (Int → Int) × Int × Int × Int
abbrev kC (κ : Kp) : Nat := κ.1
abbrev kB (κ : Kp) (i : Int) : Int := κ.2.1 i
abbrev kT (κ : Kp) (i : Int) : Int := κ.2.2.1 i
abbrev kH (κ : Kp) : Int := κ.2.2.2.1
abbrev kN (κ : Kp) : Int := κ.2.2.2.2.1
abbrev kM (κ : Kp) : Int := κ.2.2.2.2.2
def psum (f : Int → Int) : Nat → Int
  | 0 => 0
  | n + 1 => psum f n + f n
def mxF (f : Int → Int) (a : Int) : Nat → Int
  | 0 => 0
  | n + 1 => max (mxF f a n) (f (a + n))
def lenF (ρ : Rm) (a b : Int) : Int := mxF (rL ρ) a b.toNat + rS ρ 4
def lenK (ρ : Rm) (κ : Kp) (k : Int) : Int := lenF ρ (psum (kB κ) k.toNat) (kB κ k)
def covK (κ : Kp) : Int := psum (kB κ) (kC κ)
def rollK (ρ : Rm) (κ : Kp) : Int := rS ρ 3 - psum (lenK ρ κ) (kC κ)
def bit (s k : Int) : Int := zand (zshr s k) 1
def slk (k g h : Int) : Int := if k = 0 then g.tdiv 2 else if k = 1 then g else if k = 2 then g * 2 else g + h
/-- how many bits of four -/
def bcn (s : Int) : Int := bit s 0 + bit s 1 + bit s 2 + bit s 3
def opp (i : Int) : Int := (i + 2).tmod 4
def tby (ρ : Rm) (κ : Kp) (i f : Int) : Int := if kH κ = 0 then 2 else max 0 (f + (kT κ (opp i)).tdiv 2 - slk (rS ρ 6) (rS ρ 7) (bcn (kH κ)))
def dmp (ρ : Rm) (m : Int) : Int := if rS ρ 1 ≤ 0 then 4 else rD ρ (m.tmod (rS ρ 1))
def lss (ρ : Rm) (m : Int) : Int := (dmp ρ m).tdiv 3
/-- the least kick from f on, n tries -/
def lkF (ρ : Rm) (κ : Kp) (i t : Int) : Int → Nat → Int
  | _, 0 => -4
  | f, n + 1 => if t ≤ tby ρ κ i f ∧ tby ρ κ i f ≤ rS ρ 5 then f else lkF ρ κ i t (f + 1) n
def lk (ρ : Rm) (κ : Kp) (i t : Int) : Int := lkF ρ κ i t 0 21
def upI (f : Int → Int) (k v : Int) : Int → Int := fun j => if j = k then v else f j
def sbit (s k : Int) : Int := zor s (zshl 1 k)
def cbit (s k : Int) : Int := zand s (zxor (zshl 1 k) (-1))
def kick (ρ : Rm) (κ : Kp) (i f : Int) : Kp := if tby ρ κ i f ≤ rS ρ 5 then (kC κ, kB κ, upI (kT κ) i (tby ρ κ i f), sbit (kH κ) i, kN κ, kM κ) else (kC κ, kB κ, kT κ, kH κ, sbit (kN κ) i, kM κ)
def goK (κ : Kp) (i : Int) : Kp := (kC κ, kB κ, upI (kT κ) i 0, cbit (kH κ) i, kN κ, kM κ)
def monK (ρ : Rm) (κ : Kp) : Kp := (kC κ, kB κ, (fun i => max 0 (kT κ i - lss ρ (kM κ))), kH κ, kN κ, kM κ + 1)
/-- after how many months from a on it waves first, n tries, else e -/
def mwF (ρ : Rm) (m e : Int) : Int → Int → Nat → Int
  | _, _, 0 => e
  | t, a, n + 1 => if t < 2 then a else mwF ρ m e (t - lss ρ (m + a)) (a + 1) n
/-- which length stands over a strip, from length k on, n of them -/
def lovF (f : Int → Int) (s : Int) : Nat → Nat → Int
  | _, 0 => -4
  | k, n + 1 => if s < psum f (k + 1) then (k : Int) else lovF f s (k + 1) n
def lov (κ : Kp) (s : Int) : Int := lovF (kB κ) s 0 (kC κ)
def hrF (ρ : Rm) (κ : Kp) (a b : Int) : Nat → Nat → Int
  | _, 0 => 0
  | k, n + 1 => if a ≤ rS ρ 2 - kB κ k ∧ b ≤ lenK ρ κ k then 1 else hrF ρ κ a b (k + 1) n
def area (ρ : Rm) (κ : Kp) : Int := psum (fun k => (rS ρ 2 - kB κ k) * lenK ρ κ k) (kC κ)
def cutK (κ : Kp) (b : Int) : Kp := (kC κ + 1, upI (kB κ) (kC κ) b, kT κ, kH κ, kN κ, kM κ)
def nilK : Kp := (0, fun _ => 0, fun _ => 0, 0, 0, 0)
def stepA (ρ : Rm) (κ : Kp) (d : Int) : Kp := if bit (kH κ) (d.tmod 4) = 0 then (if bit (kN κ) (d.tmod 4) = 0 then kick ρ κ (d.tmod 4) ((d.tdiv 32).tmod 16) else κ) else if (d.tdiv 4).tmod 5 = 0 then goK κ (d.tmod 4) else κ
def stepK (ρ : Rm) (κ : Kp) (d : Int) : Kp := if (d.tdiv 512).tmod 3 = 0 then monK ρ (stepA ρ κ d) else stepA ρ κ d
/-- a room's objects -/
def RoomS (w : Wd) (r : Nat) : Prop := sh w r = some (.inr 3) ∧ sh w (r + 1) = some (.inl (0, 12)) ∧ sh w (r + 2) = some (.inl (0, 12)) ∧ sh w (r + 3) = some (.inl (0, 12)) ∧ sh w (r + 4) = some (.inl (0, 12)) ∧ sh w (r + 5) = some (.inl (0, 3)) ∧
  wR w r 0 = vR (r + 1) ∧ wR w r 1 = vR (r + 2) ∧ wR w r 2 = vR (r + 3) ∧ wR w r 3 = vR (r + 4) ∧ wR w r 4 = vR (r + 5)
/-- a room's numbers are such as a text can tell -/
def okR (ρ : Rm) : Prop := (1 ≤ rS ρ 0 ∧ rS ρ 0 ≤ 12) ∧ (0 ≤ rS ρ 1 ∧ rS ρ 1 ≤ 12) ∧ (1 ≤ rS ρ 2 ∧ rS ρ 2 ≤ 6) ∧ (1 ≤ rS ρ 3 ∧ rS ρ 3 ≤ 99) ∧ (0 ≤ rS ρ 4 ∧ rS ρ 4 ≤ 5) ∧ (1 ≤ rS ρ 5 ∧ rS ρ 5 ≤ 30) ∧ (0 ≤ rS ρ 6 ∧ rS ρ 6 ≤ 3) ∧ (1 ≤ rS ρ 7 ∧ rS ρ 7 ≤ 9) ∧
  (∀ s, 0 ≤ s → s < rS ρ 0 → (1 ≤ rL ρ s ∧ rL ρ s ≤ 40) ∧ (0 ≤ rG ρ s ∧ rG ρ s ≤ 9) ∧ 0 ≤ rT ρ s ∧ rT ρ s ≤ 9) ∧ ∀ k, 0 ≤ k → k < rS ρ 1 → 0 ≤ rD ρ k ∧ rD ρ k ≤ 9
def RoomC (w : Wd) (r : Nat) (ρ : Rm) : Prop := RoomS w r ∧ (∀ i : Int, 0 ≤ i → i < 8 → wI w r (i + 5) = rS ρ i) ∧ (∀ s : Int, 0 ≤ s → s < rS ρ 0 → wI w (r + 1) s = rL ρ s ∧ wI w (r + 2) s = rG ρ s ∧ wI w (r + 3) s = rT ρ s) ∧ ∀ k : Int, 0 ≤ k → k < rS ρ 1 → wI w (r + 4) k = rD ρ k
def CarS (w : Wd) (c : Nat) : Prop := sh w c = some (.inr 0) ∧ sh w (c + 1) = some (.inl (0, 12)) ∧ sh w (c + 2) = some (.inl (0, 4)) ∧ wR w c 0 = vR (c + 1) ∧ wR w c 1 = vR (c + 2)
def okK (ρ : Rm) (κ : Kp) : Prop := (∀ k : Int, 0 ≤ k → k < kC κ → 1 ≤ kB κ k ∧ kB κ k ≤ rS ρ 2) ∧ covK κ ≤ rS ρ 0 ∧ 0 ≤ rollK ρ κ ∧ (∀ i : Int, 0 ≤ i → i < 4 → 0 ≤ kT κ i ∧ kT κ i ≤ 30 ∧ (bit (kH κ) i = 0 → kT κ i = 0)) ∧ (0 ≤ kH κ ∧ kH κ < 16) ∧ (0 ≤ kN κ ∧ kN κ < 16) ∧ 0 ≤ kM κ ∧ kM κ ≤ 5000
def CarC (w : Wd) (c : Nat) (ρ : Rm) (κ : Kp) : Prop := CarS w c ∧ wI w c 2 = kC κ ∧ wI w c 3 = covK κ ∧ wI w c 4 = rollK ρ κ ∧ wI w c 5 = kH κ ∧ wI w c 6 = kN κ ∧ wI w c 7 = kM κ ∧ (∀ k : Int, 0 ≤ k → k < kC κ → wI w (c + 1) k = kB κ k) ∧ ∀ i : Int, 0 ≤ i → i < 4 → wI w (c + 2) i = kT κ i
/-- the model's carpet: 32 numbers of array a from place o on -/
def CarM (w : Wd) (a : Nat) (o : Int) (ρ : Rm) (κ : Kp) : Prop := wI w a o = kC κ ∧ (∀ k : Int, 0 ≤ k → k < kC κ → wI w a (o + 1 + k) = kB κ k ∧ wI w a (o + 13 + k) = lenK ρ κ k) ∧ (∀ i : Int, 0 ≤ i → i < 4 → wI w a (o + 25 + i) = kT κ i) ∧ wI w a (o + 29) = kH κ ∧ wI w a (o + 30) = kN κ ∧ wI w a (o + 31) = kM κ

/-! what a book, a glass, a law, the ways say; the reference's cells and the class's cells -/
abbrev BV : Type := (Nat → Nat) × (Nat → Nat → Nat)
def vL (β : BV) : Nat := β.1 0
def vT (β : BV) : Nat := β.1 1
def vH (β : BV) : Nat := β.1 2
def vW (β : BV) : Nat := β.1 3
def vR (β : BV) : Nat := β.1 4
def vk (β : BV) (l : Nat) : Nat := β.2 0 l
def vt (β : BV) (l : Nat) : Nat := β.2 1 l
def vp (β : BV) (l : Nat) : Nat := β.2 2 l
def vb (β : BV) (l : Nat) : Nat := β.2 3 l
def vy (β : BV) (l : Nat) : Nat := β.2 4 l
def vs (β : BV) (l : Nat) : Nat := β.2 5 l
def vwy (β : BV) (w : Nat) : Nat := β.2 6 w
def vwo (β : BV) (w : Nat) : Nat := β.2 7 w
def vrw (β : BV) (r : Nat) : Nat := β.2 8 r
def vrf (β : BV) (r : Nat) : Nat := β.2 9 r
def vrt (β : BV) (r : Nat) : Nat := β.2 10 r
/-- a glass: low (-1: not read), high -/
abbrev GV : Type := (Nat → Int) × (Nat → Int)
abbrev LV : Type := Nat × Nat × Nat
abbrev ld (a : LV) : Nat := a.1
abbrev lg (a : LV) : Nat := a.2.1
abbrev ls (a : LV) : Nat := a.2.2
/-- ways: how often (0: not told), how many fewer -/
abbrev WV : Type := (Nat → Nat → Nat) × (Nat → Nat → Nat)
def okB (β : BV) : Prop := vL β ≤ 40 ∧ vT β ≤ 40 ∧ vH β ≤ 100 ∧ vW β ≤ 4 ∧ vR β ≤ 8 ∧ (∀ l, l < vL β → vk β l < 12 ∧ vt β l < 40 ∧ vp β l < 20 ∧ vb β l ≤ 200 ∧ vy β l ≤ 500 ∧ vs β l ≤ 999) ∧ (∀ w, w < vW β → vwy β w ≤ 500 ∧ 1 ≤ vwo β w ∧ vwo β w ≤ 99) ∧ (∀ v w, v < w → w < vW β → vwy β v < vwy β w) ∧ (∀ r, r < vR β → vrw β r < 6 ∧ vrf β r ≤ vrt β r ∧ vrt β r ≤ 500) ∧ (0 < vL β → vp β 0 = 0) ∧ (∀ l, l + 1 < vL β → vp β (l + 1) = 0 ∨ vp β (l + 1) = vp β l + 1)
def okG (n : Nat) (γ : GV) : Prop := ∀ l, l < n → γ.1 l = -1 ∨ (0 ≤ γ.1 l ∧ γ.1 l ≤ γ.2 l ∧ γ.2 l ≤ 1000049)
def okL (a : LV) : Prop := 1 ≤ ld a ∧ ld a ≤ 50 ∧ lg a ≤ 90 ∧ ls a ≤ 50
def okW (ω : WV) : Prop := ∀ w, w < 6 → ∀ k, k < 12 → ω.1 w k ≤ 99 ∧ ω.2 w k ≤ 50
/-- the reference's book b -/
def BM (h : AH) (b : Nat) (β : BV) : Prop := hia h 196 b = w32 (vL β) ∧ hia h 197 b = w32 (vT β) ∧ hia h 198 b = w32 (vH β) ∧ hia h 199 b = w32 (vW β) ∧ hia h 200 b = w32 (vR β) ∧ (∀ l, l < vL β → hia h 202 (40 * b + l) = w32 (vk β l) ∧ hia h 203 (40 * b + l) = w32 (vt β l) ∧ hia h 204 (40 * b + l) = w32 (vp β l) ∧ hia h 205 (40 * b + l) = w32 (vb β l) ∧ hia h 206 (40 * b + l) = w32 (vy β l) ∧ hia h 207 (40 * b + l) = w32 (vs β l)) ∧ (∀ w, w < vW β → hia h 210 (4 * b + w) = w32 (vwy β w) ∧ hia h 211 (4 * b + w) = w32 (vwo β w)) ∧ (∀ r, r < vR β → hia h 212 (8 * b + r) = w32 (vrw β r) ∧ hia h 213 (8 * b + r) = w32 (vrf β r) ∧ hia h 214 (8 * b + r) = w32 (vrt β r))
def GM (h : AH) (b n : Nat) (γ : GV) : Prop := ∀ l, l < n → hia h 208 (40 * b + l) = w32 (γ.1 l) ∧ (γ.1 l ≠ -1 → hia h 209 (40 * b + l) = w32 (γ.2 l))
def LM (h : AH) (a : LV) : Prop := hia h 215 0 = w32 (ld a) ∧ hia h 215 1 = w32 (lg a) ∧ hia h 215 2 = w32 (ls a)
def WM (h : AH) (ω : WV) : Prop := ∀ w, w < 6 → ∀ k, k < 12 → hia h 216 (12 * w + k) = w32 (if ω.1 w k = 0 then -1 else (ω.1 w k : Int)) ∧ (ω.1 w k ≠ 0 → hia h 217 (12 * w + k) = w32 (ω.2 w k))
/-- the class's book at B, glass, law, ways -/
def BC (h : AH) (B : Nat) (β : BV) : Prop := hfi h B 0 = w32 (vL β) ∧ hfi h B 1 = w32 (vT β) ∧ hfi h B 3 = w32 (vH β) ∧ hfi h B 4 = w32 (vW β) ∧ hfi h B 5 = w32 (vR β) ∧ (∀ l, l < vL β → hia h (B + 1) l = w32 (vk β l) ∧ hia h (B + 2) l = w32 (vt β l) ∧ hia h (B + 3) l = w32 (vp β l) ∧ hia h (B + 4) l = w32 (vb β l) ∧ hia h (B + 5) l = w32 (vy β l) ∧ hia h (B + 6) l = w32 (vs β l)) ∧ (∀ w, w < vW β → hia h (B + 13) w = w32 (vwy β w) ∧ hia h (B + 14) w = w32 (vwo β w)) ∧ (∀ r, r < vR β → hia h (B + 15) r = w32 (vrw β r) ∧ hia h (B + 16) r = w32 (vrf β r) ∧ hia h (B + 17) r = w32 (vrt β r))
def GC (h : AH) (g n : Nat) (γ : GV) : Prop := ∀ l, l < n → hia h (g + 1) l = w32 (γ.1 l) ∧ (γ.1 l ≠ -1 → hia h (g + 2) l = w32 (γ.2 l))
def LC (h : AH) (r : Nat) (a : LV) : Prop := hfi h r 0 = w32 (ld a) ∧ hfi h r 1 = w32 (lg a) ∧ hfi h r 2 = w32 (ls a)
def WC1 (h : AH) (r : Nat) (f g : Nat → Nat) : Prop := ∀ k, k < 12 → hia h (r + 1) k = w32 (f k) ∧ (f k ≠ 0 → hia h (r + 2) k = w32 (g k)) ∧ (f k = 0 → hia h (r + 2) k = w32 0)
def WC (h : AH) (ω : WV) : Prop := ∀ w, w < 6 → WC1 h (hra h 4 w) (ω.1 w) (ω.2 w)
/-! what is said of them -/
def sBare (β : BV) (l : Nat) : Int := vb β l + if l % 2 = 1 then (vH β : Int) else 0
def sBL (β : BV) (γ : GV) (l : Nat) : Int := max 0 (γ.1 l - sBare β l)
def sBH (β : BV) (γ : GV) (l : Nat) : Int := max 0 (γ.2 l - sBare β l)
def sTh (a : LV) (v : Int) : Int := v * lg a / 100
def sUL (β : BV) (γ : GV) (a : LV) (l : Nat) (p : Option Nat) : Int := sBL β γ l - (match p with | none => 0 | some q => sTh a (sBH β γ q)) - vs β l
def sUH (β : BV) (γ : GV) (a : LV) (l : Nat) (p : Option Nat) : Int := sBH β γ l - (match p with | none => 0 | some q => sTh a (sBL β γ q)) - vs β l
def prv (l : Nat) : Option Nat := if l = 0 then none else some (l - 1)
def sTL (β : BV) (γ : GV) (a : LV) (l : Nat) : Int := (max 0 (sUL β γ a l (prv l)) + ld a - 1) / ld a
def sTH (β : BV) (γ : GV) (a : LV) (l : Nat) : Int := sUH β γ a l (prv l) / ld a
def sMid (β : BV) (γ : GV) (a : LV) (l : Nat) : Int := if sTL β γ a l > sTH β γ a l then 0 else sTL β γ a l + sTH β γ a l
/-- read: leaf l of it -/
def rd (γ : GV) (l : Nat) : Prop := γ.1 l ≠ -1

/-! ===== a storm scheduled at the end, a minute's water, what is pumped ===== -/
def schT (T : SH) (x y : Int32) : SH := stSt T (gsc T + 1, upd (gmi T) (gsc T) x, upd (gsg T) (gsc T) y, glc T, glg T)
abbrev tkA (T : SH) : SH := leakS (strike (stM T (gmn T + 1)))
def PK (T : SH) : Prop := ∃ N o : Nat, N + o < 2 ^ 31 ∧ gpu T = lN N ∧ sumI (outI (gu (tkA T)) (gw (tkA T)) (gc (tkA T)) (gpw (tkA T))) (gc (tkA T)) = nI o
def PKs : Nat → SH → Prop
  | 0, _ => True
  | n + 1, S => gsk S = 0 → PK S ∧ PKs n (tick S)

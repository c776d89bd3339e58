/-! COSTS: sums over all places and wordings m = 100 p + w -/
def mN : Nat := 6000
def hasM (A : Nat → Int32) (c m : Nat) : Bool := hasQ A (nI c) (nI (m / 100)) (nI (m % 100)) 0
def cutM (A : Nat → Int32) (c m : Nat) : Bool := kindQ A (nI c) (nI (m / 100)) 1
def wM (w : Nat → Nat → Nat) (m : Nat) : Nat := w (m / 100) (m % 100)
def ownS (A : Nat → Int32) (w : Nat → Nat → Nat) (c : Nat) : Nat := sumN mN fun m => if hasM A c m then wM w m else 0
def addS (A : Nat → Int32) (w : Nat → Nat → Nat) (a b c : Nat) : Nat := sumN mN fun m => if hasM A c m && (!hasM A a m && (!hasM A b m && !(cutM A a m && cutM A b m))) then wM w m else 0
def leaS (A : Nat → Int32) (w : Nat → Nat → Nat) (a b c : Nat) : Nat := sumN mN fun m => if (hasM A a m || hasM A b m) && (!hasM A c m && !cutM A c m) then wM w m else 0
def frC (A : Nat → Int32) (w : Nat → Nat → Nat) (a b c : Nat) : Nat := tm A 0 * addS A w a b c + tm A 1 * leaS A w a b c
/-- from a knot (0 nobody, e + 1 the copy e) to a copy -/
def cst (A : Nat → Int32) (w : Nat → Nat → Nat) (f c : Nat) : Nat := if f = 0 then tm A 2 * ownS A w c else frC A w (f - 1) (f - 1) c
def alw (A : Nat → Int32) (f c : Nat) : Bool := decide (f = 0) || compQ A c (f - 1)

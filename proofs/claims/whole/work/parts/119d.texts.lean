abbrev tX : Type := Nat → (Nat → Int32) → Option Nat
/-- what a text tells: at most 100, of nine numbers alone -/
def XOK (x : tX) : Prop := (∀ hd e v, x hd e = some v → v ≤ 100) ∧ ∀ hd e e', (∀ j, j < 9 → e j = e' j) → x hd e = x hd e'
def sameT (h h' : pg_H) (r : Nat) : Prop := pg_k h' r = pg_k h r ∧ pg_r h' r 0 = pg_r h r 0 ∧ pg_k h' (pg_r h r 0) = pg_k h (pg_r h r 0) ∧ pg_i h' (pg_r h r 0) = pg_i h (pg_r h r 0)
/-- the class's text at r tells x -/
def CText (h : pg_H) (r : Nat) (x : tX) : Prop := (110 ≤ r ∧ r ≤ h.1 ∧ 110 ≤ pg_r h r 0 ∧ pg_r h r 0 ≤ h.1 ∧ (pg_k h r).1 = 10) ∧ ∀ h', Lay h' → sameT h h' r →
  (∀ hd, hd < 5 → ∀ w : Int32, ∃ h'', F_X0_told 47 r (nI hd) w h' = some ((x hd (pg_i h' 48)).elim w nI, h'') ∧ Ch [49] [(47, 2)] h' h'') ∧
  ∀ hd, hd = 5 ∨ hd = 6 → ∃ h'', F_X0_holdsIn 47 r (nI hd) h' = some (b01 (x hd (pg_i h' 48)).isSome, h'') ∧ Ch [49] [(47, 2)] h' h''
def clampL (y : Int64) : Nat := min 100 y.toInt.toNat
def mT : List (Nat × Nat) := [(81, 19), (81, 20), (81, 21), (81, 23), (81, 24)]
/-- the reference's text t tells x -/
def MText (A : Nat → Int32) (t : Nat) (x : tX) : Prop := ∀ h', Lay h' → pg_i h' 83 (1350 + t) = A (1350 + t) → (∀ k, k < 400 → pg_i h' 83 (1358 + 400 * t + k) = A (1358 + 400 * t + k) ∧ pg_i h' 83 (4558 + 400 * t + k) = A (4558 + 400 * t + k)) →
  ∀ hd, hd < 7 → ∃ h'', F_X12_asks 81 (nI t) (nI (hd + 1)) h' = some h'' ∧ Ch [] mT h' h'' ∧ pg_i h'' 81 24 = b01 (x hd (pg_i h' 92)).isSome ∧ ∀ v, x hd (pg_i h' 92) = some v → clampL (pg_l h'' 81 23) = v
def TxAll (h : pg_H) (a : Nat) (A : Nat → Int32) (X : Nat → tX) : Prop := ∀ t, t < nT A → XOK (X t) ∧ CText h (pg_r h a t) (X t) ∧ MText A t (X t)
def ShX (h : pg_H) (s : Nat) (A : Nat → Int32) (X : Nat → tX) : Prop := CNum h s A ∧ ShOK A ∧ TxAll h (s + 12) A X
def ImOK (h : pg_H) (k : Nat) (Y : Nat → tX) : Prop := pg_i h 42 k = pg_i h 85 k ∧ (pg_i h 42 k = 0 ∨ pg_i h 42 k = 1 ∧ ShX h (16 + 13 * k) (fun j => pg_i h 84 (7758 * k + j)) Y)
/-- status, trimmed, fault, refused -/
def ScOK (h : pg_H) : Prop := pg_i h 1 11 = pg_i h 81 0 ∧ pg_i h 1 12 = pg_i h 81 6 ∧ pg_i h 1 13 = pg_i h 81 11 ∧ ∀ k, k < 7 → pg_i h 80 k = pg_i h 82 k
def TpOK (h : pg_H) : Prop := ∃ n, n ≤ 400 ∧ pg_i h 43 1 = nI n ∧ pg_i h 81 10 = nI n ∧ ∀ i, i < n → ∃ b, b < 256 ∧ pg_i h 44 i = nI b ∧ pg_i h 87 i = (nI b).toInt8.toInt32
/-- the text in use -/
def uX (A : Nat → Int32) (X : Nat → tX) : tX := if A 1349 = -1 then fun _ _ => none else X (cl A 1349)
def envW (p w s : Nat) : Nat → Int32 := fun j => if j = 0 then nI p else if j = 1 then nI (p / 5) else if j = 2 then nI w else if j = 3 then nI s else 0
def wg (A : Nat → Int32) (u : tX) (p w : Nat) : Nat := (u 0 (envW p w (shQ A (nI p) (nI w)))).getD 10

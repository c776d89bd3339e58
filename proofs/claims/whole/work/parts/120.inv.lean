/-! CACHES -/
def lastIn (pl : Nat → Nat) (p n : Nat) : Int32 := foldN n (fun r x => if pl r = p then nI r else x) (-1)
def Rd (h : pg_H) (A : Nat → Int32) (w : Nat → Nat → Nat) : Prop := ∃ (R : Nat) (pl wd : Nat → Nat), (R ≤ 200 ∧ pg_i h 50 8 = nI R) ∧
  (∀ r, r < R → (pl r < 60 ∧ wd r < 100) ∧ pg_i h 51 r = nI (pl r) ∧ pg_i h 52 r = nI (wd r) ∧ pg_i h 53 r = nI (mk 12 fun c => hasQ A (nI c) (nI (pl r)) (nI (wd r)) 0) ∧ pg_i h 54 r = nI (w (pl r) (wd r)) ∧ pg_i h 56 r = lastIn pl (pl r) r) ∧
  (∀ r r', r < R → r' < R → pl r = pl r' → wd r = wd r' → r = r') ∧
  (∀ n, n < nN A → A (340 + 5 * n + 4) = 0 → ∃ r, r < R ∧ pl r = nt A n 1 ∧ wd r = nt A n 2) ∧
  (∀ r, r < R → ∃ n, n < nN A ∧ A (340 + 5 * n + 4) = 0 ∧ pl r = nt A n 1 ∧ wd r = nt A n 2) ∧
  (∀ p, p < 60 → pg_i h 55 p = lastIn pl p R ∧ pg_i h 57 p = nI (mk 12 fun c => kindQ A (nI c) (nI p) 1))
def Stm (h : pg_H) (A : Nat → Int32) (w : Nat → Nat → Nat) : Prop := ∃ T, isFirst (nC A) (alw A) (cst A w) T ∧ (∀ c, c < 12 → pg_i h 66 c = if c < nC A ∧ T c ≠ 0 then nI (T c - 1) else -1) ∧ pg_i h 59 7 = nI (nC A + 1) ∧ pg_i h 59 8 = nI (tCost (nC A) (cst A w) T) ∧
  ∀ f c, f ≤ nC A → c < nC A → pg_i h 60 (f * 13 + (c + 1)) = if alw A f c then nI (cst A w f c) else -1
def Grw (h : pg_H) (A : Nat → Int32) (w : Nat → Nat → Nat) : Prop := ∃ T, isFirst (nC A) (alw A) (cst A w) T ∧ (∀ c, c < nC A → pg_i h 97 c = if T c = 0 then nI 12 else nI (T c - 1)) ∧ pg_i h 81 30 = nI (tCost (nC A) (cst A w) T)
def ReadOK (h : pg_H) (A : Nat → Int32) (w : Nat → Nat → Nat) : Prop := pg_i h 1 14 = 0 ∨ (pg_i h 1 14 = 1 ∧ Rd h A w)
def StemOK (h : pg_H) (A : Nat → Int32) (w : Nat → Nat → Nat) : Prop := pg_i h 1 15 = 0 ∨ (pg_i h 1 15 = 1 ∧ Stm h A w)
def GrowOK (h : pg_H) (A : Nat → Int32) (w : Nat → Nat → Nat) : Prop := pg_i h 81 31 = -1 ∨ ∃ g v, pg_i h 81 31 = nI g ∧ pg_i h 81 1 = nI v ∧ g ≤ v ∧ v ≤ 1000 ∧ (g = v → Grw h A w)
/-- what lies in the shelves' rows of texts -/
def RefOK (h : pg_H) : Prop := ∀ a, a = 14 ∨ a = 28 ∨ a = 41 → ∀ t, t < 8 → pg_r h a t = 0 ∨ ((pg_k h (pg_r h a t)).1 = 10 ∧ pg_r h a t ≤ h.1)
/-- the latest world, up to the names of its notes -/
def WOK (h : pg_H) : Prop := RefOK h ∧ ∃ (wn : Nat) (sz cd : Nat → Nat), wn ≤ 12 ∧ pg_i h 76 3 = nI wn ∧ (pg_i h 81 44 = nI wn ∨ wn = 0 ∧ pg_i h 81 44 = -1) ∧
  (∀ c, c < wn → cd c ≤ sz c ∧ sz c ≤ 144 ∧ pg_i h 78 c = nI (sz c) ∧ pg_i h 108 c = nI (sz c) ∧ pg_i h 79 c = nI (cd c) ∧ pg_i h 109 c = nI (cd c)) ∧
  ∀ c i c' i', c < wn → i < sz c → c' < wn → i' < sz c' → (pg_i h 77 (144 * c + i) = pg_i h 77 (144 * c' + i') ↔ pg_i h 107 (144 * c + i) = pg_i h 107 (144 * c' + i'))
def Inv (q : Nat) (h : pg_H) : Prop := Lay h ∧ ScOK h ∧ TpOK h ∧ WOK h ∧ (∃ v, pg_i h 81 1 = nI v ∧ v ≤ q) ∧ ∃ X Y0 Y1 : Nat → tX, ShX h 2 (pg_i h 83) X ∧ ImOK h 0 Y0 ∧ ImOK h 1 Y1 ∧
  ReadOK h (pg_i h 83) (wg (pg_i h 83) (uX (pg_i h 83) X)) ∧ StemOK h (pg_i h 83) (wg (pg_i h 83) (uX (pg_i h 83) X)) ∧ GrowOK h (pg_i h 83) (wg (pg_i h 83) (uX (pg_i h 83) X))

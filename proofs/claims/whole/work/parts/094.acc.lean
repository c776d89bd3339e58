/-! ACCESSORS with the literals as the code has them (wip/gen/acc2.py): c_ the class, m_ the reference -/
theorem c_size_3 {h : pg_H} {A : Nat → Int32} (C : CNum h 2 A) : F_X7_size h 3 = some (nI (nC A)) := C.1.1.size
theorem c_rcv_3 {τ : Type} {h : pg_H} {A : Nat → Int32} (C : CNum h 2 A) (G : Option τ) : pg_rcv 7 h 3 G = G := C.1.1.rcv G
theorem c_at_3_0 {h : pg_H} {A : Nat → Int32} (C : CNum h 2 A) {i : Nat} (hi : i < nC A) : F_X7_at h 3 (nI i) (0 : Int32) = some (A (3 * i)) := by
  have z := C.1.at (i := i) (j := 0) hi (by decide)
  rw [show 0 + 3 * i + 0 = 3 * i from by omega] at z
  exact z
theorem c_at_3_1 {h : pg_H} {A : Nat → Int32} (C : CNum h 2 A) {i : Nat} (hi : i < nC A) : F_X7_at h 3 (nI i) (1 : Int32) = some (A (3 * i + 1)) := by
  have z := C.1.at (i := i) (j := 1) hi (by decide)
  rw [show 0 + 3 * i + 1 = 3 * i + 1 from by omega] at z
  exact z
theorem c_at_3_2 {h : pg_H} {A : Nat → Int32} (C : CNum h 2 A) {i : Nat} (hi : i < nC A) : F_X7_at h 3 (nI i) (2 : Int32) = some (A (3 * i + 2)) := by
  have z := C.1.at (i := i) (j := 2) hi (by decide)
  rw [show 0 + 3 * i + 2 = 3 * i + 2 from by omega] at z
  exact z
theorem c_holds_3 {h : pg_H} {A : Nat → Int32} (C : CNum h 2 A) (x : Int32) : F_X7_holds h 3 x = some (b01 (decide (0 ≤ x ∧ x < nI (nC A)))) := by
  rw [C.1.1.holds x, b01_if]
theorem c_size_5 {h : pg_H} {A : Nat → Int32} (C : CNum h 2 A) : F_X7_size h 5 = some (nI (nS A)) := C.2.1.1.size
theorem c_rcv_5 {τ : Type} {h : pg_H} {A : Nat → Int32} (C : CNum h 2 A) (G : Option τ) : pg_rcv 7 h 5 G = G := C.2.1.1.rcv G
theorem c_at_5_0 {h : pg_H} {A : Nat → Int32} (C : CNum h 2 A) {i : Nat} (hi : i < nS A) : F_X7_at h 5 (nI i) (0 : Int32) = some (A (36 + 4 * i)) := by
  have z := C.2.1.at (i := i) (j := 0) hi (by decide)
  rw [show 36 + 4 * i + 0 = 36 + 4 * i from by omega] at z
  exact z
theorem c_at_5_1 {h : pg_H} {A : Nat → Int32} (C : CNum h 2 A) {i : Nat} (hi : i < nS A) : F_X7_at h 5 (nI i) (1 : Int32) = some (A (36 + 4 * i + 1)) := by
  have z := C.2.1.at (i := i) (j := 1) hi (by decide)
  rw [show 36 + 4 * i + 1 = 36 + 4 * i + 1 from by omega] at z
  exact z
theorem c_at_5_2 {h : pg_H} {A : Nat → Int32} (C : CNum h 2 A) {i : Nat} (hi : i < nS A) : F_X7_at h 5 (nI i) (2 : Int32) = some (A (36 + 4 * i + 2)) := by
  have z := C.2.1.at (i := i) (j := 2) hi (by decide)
  rw [show 36 + 4 * i + 2 = 36 + 4 * i + 2 from by omega] at z
  exact z
theorem c_at_5_3 {h : pg_H} {A : Nat → Int32} (C : CNum h 2 A) {i : Nat} (hi : i < nS A) : F_X7_at h 5 (nI i) (3 : Int32) = some (A (36 + 4 * i + 3)) := by
  have z := C.2.1.at (i := i) (j := 3) hi (by decide)
  rw [show 36 + 4 * i + 3 = 36 + 4 * i + 3 from by omega] at z
  exact z
theorem c_holds_5 {h : pg_H} {A : Nat → Int32} (C : CNum h 2 A) (x : Int32) : F_X7_holds h 5 x = some (b01 (decide (0 ≤ x ∧ x < nI (nS A)))) := by
  rw [C.2.1.1.holds x, b01_if]
theorem c_size_7 {h : pg_H} {A : Nat → Int32} (C : CNum h 2 A) : F_X7_size h 7 = some (nI (nH A)) := C.2.2.1.1.size
theorem c_rcv_7 {τ : Type} {h : pg_H} {A : Nat → Int32} (C : CNum h 2 A) (G : Option τ) : pg_rcv 7 h 7 G = G := C.2.2.1.1.rcv G
theorem c_at_7_0 {h : pg_H} {A : Nat → Int32} (C : CNum h 2 A) {i : Nat} (hi : i < nH A) : F_X7_at h 7 (nI i) (0 : Int32) = some (A (196 + 8 * i)) := by
  have z := C.2.2.1.at (i := i) (j := 0) hi (by decide)
  rw [show 196 + 8 * i + 0 = 196 + 8 * i from by omega] at z
  exact z
theorem c_at_7_1 {h : pg_H} {A : Nat → Int32} (C : CNum h 2 A) {i : Nat} (hi : i < nH A) : F_X7_at h 7 (nI i) (1 : Int32) = some (A (196 + 8 * i + 1)) := by
  have z := C.2.2.1.at (i := i) (j := 1) hi (by decide)
  rw [show 196 + 8 * i + 1 = 196 + 8 * i + 1 from by omega] at z
  exact z
theorem c_at_7_2 {h : pg_H} {A : Nat → Int32} (C : CNum h 2 A) {i : Nat} (hi : i < nH A) : F_X7_at h 7 (nI i) (2 : Int32) = some (A (196 + 8 * i + 2)) := by
  have z := C.2.2.1.at (i := i) (j := 2) hi (by decide)
  rw [show 196 + 8 * i + 2 = 196 + 8 * i + 2 from by omega] at z
  exact z
theorem c_at_7_3 {h : pg_H} {A : Nat → Int32} (C : CNum h 2 A) {i : Nat} (hi : i < nH A) : F_X7_at h 7 (nI i) (3 : Int32) = some (A (196 + 8 * i + 3)) := by
  have z := C.2.2.1.at (i := i) (j := 3) hi (by decide)
  rw [show 196 + 8 * i + 3 = 196 + 8 * i + 3 from by omega] at z
  exact z
theorem c_at_7_4 {h : pg_H} {A : Nat → Int32} (C : CNum h 2 A) {i : Nat} (hi : i < nH A) : F_X7_at h 7 (nI i) (4 : Int32) = some (A (196 + 8 * i + 4)) := by
  have z := C.2.2.1.at (i := i) (j := 4) hi (by decide)
  rw [show 196 + 8 * i + 4 = 196 + 8 * i + 4 from by omega] at z
  exact z
theorem c_at_7_5 {h : pg_H} {A : Nat → Int32} (C : CNum h 2 A) {i : Nat} (hi : i < nH A) : F_X7_at h 7 (nI i) (5 : Int32) = some (A (196 + 8 * i + 5)) := by
  have z := C.2.2.1.at (i := i) (j := 5) hi (by decide)
  rw [show 196 + 8 * i + 5 = 196 + 8 * i + 5 from by omega] at z
  exact z
theorem c_at_7_6 {h : pg_H} {A : Nat → Int32} (C : CNum h 2 A) {i : Nat} (hi : i < nH A) : F_X7_at h 7 (nI i) (6 : Int32) = some (A (196 + 8 * i + 6)) := by
  have z := C.2.2.1.at (i := i) (j := 6) hi (by decide)
  rw [show 196 + 8 * i + 6 = 196 + 8 * i + 6 from by omega] at z
  exact z
theorem c_at_7_7 {h : pg_H} {A : Nat → Int32} (C : CNum h 2 A) {i : Nat} (hi : i < nH A) : F_X7_at h 7 (nI i) (7 : Int32) = some (A (196 + 8 * i + 7)) := by
  have z := C.2.2.1.at (i := i) (j := 7) hi (by decide)
  rw [show 196 + 8 * i + 7 = 196 + 8 * i + 7 from by omega] at z
  exact z
theorem c_holds_7 {h : pg_H} {A : Nat → Int32} (C : CNum h 2 A) (x : Int32) : F_X7_holds h 7 x = some (b01 (decide (0 ≤ x ∧ x < nI (nH A)))) := by
  rw [C.2.2.1.1.holds x, b01_if]
theorem c_size_9 {h : pg_H} {A : Nat → Int32} (C : CNum h 2 A) : F_X7_size h 9 = some (nI (8)) := C.2.2.2.1.1.size
theorem c_rcv_9 {τ : Type} {h : pg_H} {A : Nat → Int32} (C : CNum h 2 A) (G : Option τ) : pg_rcv 7 h 9 G = G := C.2.2.2.1.1.rcv G
theorem c_at_9_0 {h : pg_H} {A : Nat → Int32} (C : CNum h 2 A) {i : Nat} (hi : i < 8) : F_X7_at h 9 (nI i) (0 : Int32) = some (A (292 + 6 * i)) := by
  have z := C.2.2.2.1.at (i := i) (j := 0) hi (by decide)
  rw [show 292 + 6 * i + 0 = 292 + 6 * i from by omega] at z
  exact z
theorem c_at_9_1 {h : pg_H} {A : Nat → Int32} (C : CNum h 2 A) {i : Nat} (hi : i < 8) : F_X7_at h 9 (nI i) (1 : Int32) = some (A (292 + 6 * i + 1)) := by
  have z := C.2.2.2.1.at (i := i) (j := 1) hi (by decide)
  rw [show 292 + 6 * i + 1 = 292 + 6 * i + 1 from by omega] at z
  exact z
theorem c_at_9_2 {h : pg_H} {A : Nat → Int32} (C : CNum h 2 A) {i : Nat} (hi : i < 8) : F_X7_at h 9 (nI i) (2 : Int32) = some (A (292 + 6 * i + 2)) := by
  have z := C.2.2.2.1.at (i := i) (j := 2) hi (by decide)
  rw [show 292 + 6 * i + 2 = 292 + 6 * i + 2 from by omega] at z
  exact z
theorem c_at_9_3 {h : pg_H} {A : Nat → Int32} (C : CNum h 2 A) {i : Nat} (hi : i < 8) : F_X7_at h 9 (nI i) (3 : Int32) = some (A (292 + 6 * i + 3)) := by
  have z := C.2.2.2.1.at (i := i) (j := 3) hi (by decide)
  rw [show 292 + 6 * i + 3 = 292 + 6 * i + 3 from by omega] at z
  exact z
theorem c_at_9_4 {h : pg_H} {A : Nat → Int32} (C : CNum h 2 A) {i : Nat} (hi : i < 8) : F_X7_at h 9 (nI i) (4 : Int32) = some (A (292 + 6 * i + 4)) := by
  have z := C.2.2.2.1.at (i := i) (j := 4) hi (by decide)
  rw [show 292 + 6 * i + 4 = 292 + 6 * i + 4 from by omega] at z
  exact z
theorem c_at_9_5 {h : pg_H} {A : Nat → Int32} (C : CNum h 2 A) {i : Nat} (hi : i < 8) : F_X7_at h 9 (nI i) (5 : Int32) = some (A (292 + 6 * i + 5)) := by
  have z := C.2.2.2.1.at (i := i) (j := 5) hi (by decide)
  rw [show 292 + 6 * i + 5 = 292 + 6 * i + 5 from by omega] at z
  exact z
theorem c_holds_9 {h : pg_H} {A : Nat → Int32} (C : CNum h 2 A) (x : Int32) : F_X7_holds h 9 x = some (b01 (decide (0 ≤ x ∧ x < nI (8)))) := by
  rw [C.2.2.2.1.1.holds x, b01_if]
theorem c_size_11 {h : pg_H} {A : Nat → Int32} (C : CNum h 2 A) : F_X7_size h 11 = some (nI (nN A)) := C.2.2.2.2.1.1.size
theorem c_rcv_11 {τ : Type} {h : pg_H} {A : Nat → Int32} (C : CNum h 2 A) (G : Option τ) : pg_rcv 7 h 11 G = G := C.2.2.2.2.1.1.rcv G
theorem c_at_11_0 {h : pg_H} {A : Nat → Int32} (C : CNum h 2 A) {i : Nat} (hi : i < nN A) : F_X7_at h 11 (nI i) (0 : Int32) = some (A (340 + 5 * i)) := by
  have z := C.2.2.2.2.1.at (i := i) (j := 0) hi (by decide)
  rw [show 340 + 5 * i + 0 = 340 + 5 * i from by omega] at z
  exact z
theorem c_at_11_1 {h : pg_H} {A : Nat → Int32} (C : CNum h 2 A) {i : Nat} (hi : i < nN A) : F_X7_at h 11 (nI i) (1 : Int32) = some (A (340 + 5 * i + 1)) := by
  have z := C.2.2.2.2.1.at (i := i) (j := 1) hi (by decide)
  rw [show 340 + 5 * i + 1 = 340 + 5 * i + 1 from by omega] at z
  exact z
theorem c_at_11_2 {h : pg_H} {A : Nat → Int32} (C : CNum h 2 A) {i : Nat} (hi : i < nN A) : F_X7_at h 11 (nI i) (2 : Int32) = some (A (340 + 5 * i + 2)) := by
  have z := C.2.2.2.2.1.at (i := i) (j := 2) hi (by decide)
  rw [show 340 + 5 * i + 2 = 340 + 5 * i + 2 from by omega] at z
  exact z
theorem c_at_11_3 {h : pg_H} {A : Nat → Int32} (C : CNum h 2 A) {i : Nat} (hi : i < nN A) : F_X7_at h 11 (nI i) (3 : Int32) = some (A (340 + 5 * i + 3)) := by
  have z := C.2.2.2.2.1.at (i := i) (j := 3) hi (by decide)
  rw [show 340 + 5 * i + 3 = 340 + 5 * i + 3 from by omega] at z
  exact z
theorem c_at_11_4 {h : pg_H} {A : Nat → Int32} (C : CNum h 2 A) {i : Nat} (hi : i < nN A) : F_X7_at h 11 (nI i) (4 : Int32) = some (A (340 + 5 * i + 4)) := by
  have z := C.2.2.2.2.1.at (i := i) (j := 4) hi (by decide)
  rw [show 340 + 5 * i + 4 = 340 + 5 * i + 4 from by omega] at z
  exact z
theorem c_holds_11 {h : pg_H} {A : Nat → Int32} (C : CNum h 2 A) (x : Int32) : F_X7_holds h 11 x = some (b01 (decide (0 ≤ x ∧ x < nI (nN A)))) := by
  rw [C.2.2.2.2.1.1.holds x, b01_if]
theorem m_copy_0 {h : pg_H} {A : Nat → Int32} (L : Lay h) (M : pg_i h 83 = A) {i : Nat} (hi : i < 12) : F_X12_copyOf h 81 (nI i) (0 : Int32) = some (A (3 * i)) := by
  have z := m_copyOf L i 0 (by omega)
  rw [M, show 0 + 3 * i + 0 = 3 * i from by omega] at z
  exact z
theorem m_copy_1 {h : pg_H} {A : Nat → Int32} (L : Lay h) (M : pg_i h 83 = A) {i : Nat} (hi : i < 12) : F_X12_copyOf h 81 (nI i) (1 : Int32) = some (A (3 * i + 1)) := by
  have z := m_copyOf L i 1 (by omega)
  rw [M, show 0 + 3 * i + 1 = 3 * i + 1 from by omega] at z
  exact z
theorem m_copy_2 {h : pg_H} {A : Nat → Int32} (L : Lay h) (M : pg_i h 83 = A) {i : Nat} (hi : i < 12) : F_X12_copyOf h 81 (nI i) (2 : Int32) = some (A (3 * i + 2)) := by
  have z := m_copyOf L i 2 (by omega)
  rw [M, show 0 + 3 * i + 2 = 3 * i + 2 from by omega] at z
  exact z
theorem m_stay_0 {h : pg_H} {A : Nat → Int32} (L : Lay h) (M : pg_i h 83 = A) {i : Nat} (hi : i < 40) : F_X12_stayOf h 81 (nI i) (0 : Int32) = some (A (36 + 4 * i)) := by
  have z := m_stayOf L i 0 (by omega)
  rw [M, show 36 + 4 * i + 0 = 36 + 4 * i from by omega] at z
  exact z
theorem m_stay_1 {h : pg_H} {A : Nat → Int32} (L : Lay h) (M : pg_i h 83 = A) {i : Nat} (hi : i < 40) : F_X12_stayOf h 81 (nI i) (1 : Int32) = some (A (36 + 4 * i + 1)) := by
  have z := m_stayOf L i 1 (by omega)
  rw [M, show 36 + 4 * i + 1 = 36 + 4 * i + 1 from by omega] at z
  exact z
theorem m_stay_2 {h : pg_H} {A : Nat → Int32} (L : Lay h) (M : pg_i h 83 = A) {i : Nat} (hi : i < 40) : F_X12_stayOf h 81 (nI i) (2 : Int32) = some (A (36 + 4 * i + 2)) := by
  have z := m_stayOf L i 2 (by omega)
  rw [M, show 36 + 4 * i + 2 = 36 + 4 * i + 2 from by omega] at z
  exact z
theorem m_stay_3 {h : pg_H} {A : Nat → Int32} (L : Lay h) (M : pg_i h 83 = A) {i : Nat} (hi : i < 40) : F_X12_stayOf h 81 (nI i) (3 : Int32) = some (A (36 + 4 * i + 3)) := by
  have z := m_stayOf L i 3 (by omega)
  rw [M, show 36 + 4 * i + 3 = 36 + 4 * i + 3 from by omega] at z
  exact z
theorem m_hand_0 {h : pg_H} {A : Nat → Int32} (L : Lay h) (M : pg_i h 83 = A) {i : Nat} (hi : i < 12) : F_X12_handOf h 81 (nI i) (0 : Int32) = some (A (196 + 8 * i)) := by
  have z := m_handOf L i 0 (by omega)
  rw [M, show 196 + 8 * i + 0 = 196 + 8 * i from by omega] at z
  exact z
theorem m_hand_1 {h : pg_H} {A : Nat → Int32} (L : Lay h) (M : pg_i h 83 = A) {i : Nat} (hi : i < 12) : F_X12_handOf h 81 (nI i) (1 : Int32) = some (A (196 + 8 * i + 1)) := by
  have z := m_handOf L i 1 (by omega)
  rw [M, show 196 + 8 * i + 1 = 196 + 8 * i + 1 from by omega] at z
  exact z
theorem m_note_0 {h : pg_H} {A : Nat → Int32} (L : Lay h) (M : pg_i h 83 = A) {i : Nat} (hi : i < 200) : F_X12_noteOf h 81 (nI i) (0 : Int32) = some (A (340 + 5 * i)) := by
  have z := m_noteOf L i 0 (by omega)
  rw [M, show 340 + 5 * i + 0 = 340 + 5 * i from by omega] at z
  exact z
theorem m_note_1 {h : pg_H} {A : Nat → Int32} (L : Lay h) (M : pg_i h 83 = A) {i : Nat} (hi : i < 200) : F_X12_noteOf h 81 (nI i) (1 : Int32) = some (A (340 + 5 * i + 1)) := by
  have z := m_noteOf L i 1 (by omega)
  rw [M, show 340 + 5 * i + 1 = 340 + 5 * i + 1 from by omega] at z
  exact z
theorem m_note_2 {h : pg_H} {A : Nat → Int32} (L : Lay h) (M : pg_i h 83 = A) {i : Nat} (hi : i < 200) : F_X12_noteOf h 81 (nI i) (2 : Int32) = some (A (340 + 5 * i + 2)) := by
  have z := m_noteOf L i 2 (by omega)
  rw [M, show 340 + 5 * i + 2 = 340 + 5 * i + 2 from by omega] at z
  exact z
theorem m_note_3 {h : pg_H} {A : Nat → Int32} (L : Lay h) (M : pg_i h 83 = A) {i : Nat} (hi : i < 200) : F_X12_noteOf h 81 (nI i) (3 : Int32) = some (A (340 + 5 * i + 3)) := by
  have z := m_noteOf L i 3 (by omega)
  rw [M, show 340 + 5 * i + 3 = 340 + 5 * i + 3 from by omega] at z
  exact z
theorem m_note_4 {h : pg_H} {A : Nat → Int32} (L : Lay h) (M : pg_i h 83 = A) {i : Nat} (hi : i < 200) : F_X12_noteOf h 81 (nI i) (4 : Int32) = some (A (340 + 5 * i + 4)) := by
  have z := m_noteOf L i 4 (by omega)
  rw [M, show 340 + 5 * i + 4 = 340 + 5 * i + 4 from by omega] at z
  exact z
theorem m_k_1344 {h : pg_H} {A : Nat → Int32} (L : Lay h) (M : pg_i h 83 = A) : pg_aI 21 h 83 (1344 : Int32) = some (A 1344) := by
  have z := m_kept L 1344 (by decide)
  rw [M] at z
  exact z
theorem m_k_1345 {h : pg_H} {A : Nat → Int32} (L : Lay h) (M : pg_i h 83 = A) : pg_aI 21 h 83 (1345 : Int32) = some (A 1345) := by
  have z := m_kept L 1345 (by decide)
  rw [M] at z
  exact z
theorem m_k_1346 {h : pg_H} {A : Nat → Int32} (L : Lay h) (M : pg_i h 83 = A) : pg_aI 21 h 83 (1346 : Int32) = some (A 1346) := by
  have z := m_kept L 1346 (by decide)
  rw [M] at z
  exact z
theorem m_k_1347 {h : pg_H} {A : Nat → Int32} (L : Lay h) (M : pg_i h 83 = A) : pg_aI 21 h 83 (1347 : Int32) = some (A 1347) := by
  have z := m_kept L 1347 (by decide)
  rw [M] at z
  exact z
theorem m_k_1348 {h : pg_H} {A : Nat → Int32} (L : Lay h) (M : pg_i h 83 = A) : pg_aI 21 h 83 (1348 : Int32) = some (A 1348) := by
  have z := m_kept L 1348 (by decide)
  rw [M] at z
  exact z
theorem m_k_1349 {h : pg_H} {A : Nat → Int32} (L : Lay h) (M : pg_i h 83 = A) : pg_aI 21 h 83 (1349 : Int32) = some (A 1349) := by
  have z := m_kept L 1349 (by decide)
  rw [M] at z
  exact z
theorem m_copiesA {h : pg_H} {A : Nat → Int32} (L : Lay h) (M : pg_i h 83 = A) : F_X12_copies h 81 = some (A 1344) := by rw [m_copies L, M]
theorem lies_n {n : Nat} (x : Int32) (hn : n < 2 ^ 31) : F_X12_lies x (0 : Int32) (nI n - 1) = some (b01 (decide (0 ≤ x ∧ x < nI n))) := by
  cases n with
  | zero =>
    unfold F_X12_lies
    by_cases h0 : x < 0
    · rw [if_pos h0, decide_eq_false (fun q => Int32.not_lt.mpr q.1 h0)]
      rfl
    · rw [if_neg h0]
      obtain ⟨j, hj, rfl⟩ := nI_of h0
      rw [if_pos (Int32.lt_iff_toInt_lt.mpr (by rw [nI_toInt hj]; show -1 < (j : Int); omega)), decide_eq_false (fun q => by
        have := (nI_ltI hj (by decide)).mp q.2
        omega)]
      rfl
  | succ n =>
    rw [nI_pred]
    exact (lies_nI x hn).trans (congrArg some b01_if)
theorem m_isCopy {h : pg_H} {A : Nat → Int32} (L : Lay h) (M : pg_i h 83 = A) (K : ShOK A) (x : Int32) : F_X12_isCopy h 81 x = some (b01 (decide (0 ≤ x ∧ x < nI (nC A)))) := by
  unfold F_X12_isCopy
  have k := K.1.1
  have k2 : nC A < 13 := k.2
  rw [rc_81 L, m_copiesA L M, Option.bind_some, k.1, lies_n x (by show nC A < _; omega), Option.bind_some]
  exact b01_z _
theorem m_isHand {h : pg_H} {A : Nat → Int32} (L : Lay h) (M : pg_i h 83 = A) (K : ShOK A) (x : Int32) : F_X12_isHand h 81 x = some (b01 (decide (0 ≤ x ∧ x < nI (nH A)))) := by
  unfold F_X12_isHand
  have k := K.1.2.2.1
  have k2 : nH A < 13 := k.2
  rw [gR_81_3 L, Option.bind_some, m_k_1346 L M, Option.bind_some, k.1, lies_n x (by show nH A < _; omega), Option.bind_some]
  exact b01_z _
theorem m_isText {h : pg_H} {A : Nat → Int32} (L : Lay h) (M : pg_i h 83 = A) (K : ShOK A) (x : Int32) : F_X12_isText h 81 x = some (b01 (decide (0 ≤ x ∧ x < nI (nT A)))) := by
  unfold F_X12_isText
  have k := K.1.2.2.2.2
  have k2 : nT A < 9 := k.2
  rw [gR_81_3 L, Option.bind_some, m_k_1348 L M, Option.bind_some, k.1, lies_n x (by show nT A < _; omega), Option.bind_some]
  exact b01_z _
/-- what is among the first n is a natural -/
theorem in_nI {x : Int32} {n : Nat} (h : 0 ≤ x ∧ x < nI n) (hn : n < 2 ^ 31) : ∃ i, i < n ∧ x = nI i := by
  obtain ⟨j, hj, rfl⟩ := nI_of (Int32.not_lt.mpr h.1)
  exact ⟨j, (nI_ltI hj hn).mp h.2, rfl⟩
theorem nI_in_iff {i n : Nat} (hi : i < 2 ^ 31) (hn : n < 2 ^ 31) : (0 ≤ nI i ∧ nI i < nI n) ↔ i < n :=
  ⟨fun q => (nI_ltI hi hn).mp q.2, fun q => ⟨nI_pos' hi, nI_lt q hn⟩⟩
theorem within_lies (x a b : Int32) : F_X11_within x a b = F_X12_lies x a b := rfl
theorem lies_le (x a b : Int32) : F_X12_lies x a b = some (b01 (decide (a ≤ x ∧ x ≤ b))) := by
  unfold F_X12_lies
  by_cases h0 : x < a
  · rw [if_pos h0, decide_eq_false (fun q => Int32.not_lt.mpr q.1 h0)]
    rfl
  · rw [if_neg h0]
    by_cases h1 : b < x
    · rw [if_pos h1, decide_eq_false (fun q => Int32.not_lt.mpr q.2 h1)]
      rfl
    · rw [if_neg h1, decide_eq_true (⟨Int32.not_lt.mp h0, Int32.not_lt.mp h1⟩ : a ≤ x ∧ x ≤ b)]
      rfl
theorem within_le (x a b : Int32) : F_X11_within x a b = some (b01 (decide (a ≤ x ∧ x ≤ b))) := lies_le x a b

/-! STOPS and NEXT, by both sides -/
def lookQ (A : Nat → Int32) (c : Nat) : Bool := decide (c < nC A) && decide (cp A c 2 = 1)
theorem c_copiesLookedAt {h : pg_H} {A : Nat → Int32} (L : Lay h) (C : CNum h 2 A) (K : ShOK A) : F_X5_copiesLookedAt h 2 = some (nI (mk 12 (lookQ A))) := by
  have kC : nC A < 13 := K.1.1.2
  unfold F_X5_copiesLookedAt
  have z := loopF (fun f i x => F_X5_copiesLookedAt_4 h f 2 (nI x) (nI i)) (nC A) (fun i x => x ||| (if decide (cp A i 2 = 1) then 2 ^ i else 0)) (some (nI (foldN (nC A) (fun i x => x ||| (if decide (cp A i 2 = 1) then 2 ^ i else 0)) 0))) (fun _ _ => True) 0 ?_ (fun _ _ _ _ _ => trivial) ?_ trivial pg_fuel (by unfold pg_fuel; omega)
  · refine z.trans (congrArg (fun x => some (nI x)) ?_)
    refine (foldN_or (n := 12) (g := fun i => i) (fun i hi _ => by omega)).trans ?_
    refine mk_cong (fun c hc => Bool.eq_iff_iff.mpr ?_)
    unfold lookQ
    rw [anyN_true, Bool.and_eq_true, decide_eq_true_eq]
    constructor
    · rintro ⟨i, hi, q⟩
      rw [Bool.and_eq_true, decide_eq_true_eq (p := i = c)] at q
      rw [← q.2]
      exact ⟨hi, q.1⟩
    · rintro ⟨h1, h2⟩
      exact ⟨c, h1, by rw [Bool.and_eq_true]; exact ⟨h2, decide_eq_true rfl⟩⟩
  · intro f i x hi _ _
    have q : Rg A (3 * i + 2) 2 := (K.2.1 i hi).2.2
    show F_X5_copiesLookedAt_4 h (f + 1) 2 (nI x) (nI i) = F_X5_copiesLookedAt_4 h f 2 (nI (x ||| (if decide (cp A i 2 = 1) then 2 ^ i else 0))) (nI (i + 1))
    rw [F_X5_copiesLookedAt_4]
    dsimp only
    simp only [Option.bind_some, if_true, if_false, Int32.lt_irrefl, rc_2 L, gR_2_0 L, gR_2_1 L, gR_2_2 L, gR_2_3 L, gR_2_4 L, gR_2_5 L, gR_2_6 L, c_rcv_3 C, c_rcv_5 C, c_rcv_7 C, c_rcv_9 C, c_rcv_11 C, c_size_3 C, c_size_5 C, c_size_7 C, c_size_9 C, c_size_11 C, c_at_3_0 C hi, c_at_3_1 C hi, c_at_3_2 C hi, pg_let, nI_1, nI_ltI (show i < 2 ^ 31 by omega) (show nC A < 2 ^ 31 by omega), hi]
    rw [q.1]
    by_cases e : cl A (3 * i + 2) = 1
    · rw [e, show decide (cp A i 2 = 1) = true from decide_eq_true e, if_pos rfl, show nI 1 = 1 from rfl, ix_shl _ (by omega), ix_or]
    · have e0 : cl A (3 * i + 2) = 0 := by have := q.2; omega
      have s : ∀ d, d < 32 → (nI 0) <<< (nI d &&& 31) = nI 0 := by decide +kernel
      rw [e0, show decide (cp A i 2 = 1) = false from decide_eq_false e, if_neg (by decide), s i (by omega), ix_or]
  · intro f _
    show F_X5_copiesLookedAt_4 h (f + 1) 2 (nI (foldN (nC A) (fun i x => x ||| (if decide (cp A i 2 = 1) then 2 ^ i else 0)) 0)) (nI (nC A)) = _
    rw [F_X5_copiesLookedAt_4]
    dsimp only
    simp only [Option.bind_some, if_true, if_false, Int32.lt_irrefl, rc_2 L, gR_2_0 L, gR_2_1 L, gR_2_2 L, gR_2_3 L, gR_2_4 L, gR_2_5 L, gR_2_6 L, c_rcv_3 C, c_rcv_5 C, c_rcv_7 C, c_rcv_9 C, c_rcv_11 C, c_size_3 C, c_size_5 C, c_size_7 C, c_size_9 C, c_size_11 C]
/-- how many chapters of a copy, and the last one -/
def stopN (A : Nat → Int32) (c : Int32) : Nat := sumN 12 fun k => if notedQ A c k then 1 else 0
def stopL (A : Nat → Int32) (c : Int32) : Nat := foldN 12 (fun k x => if notedQ A c k then k + 1 else x) 0
theorem m_stops {h : pg_H} {A : Nat → Int32} (L : Lay h) (M : pg_i h 83 = A) (K : ShOK A) (c what : Int32) : F_X12_stops_27 h pg_fuel 81 c what 0 (-1) 0 = some (if what = 0 then nI (stopN A c) else nI (stopL A c) - 1) := by
  unfold stopN stopL
  obtain ⟨N, hN⟩ : ∃ N, N = 12 := ⟨12, rfl⟩
  rw [← hN]
  have z := loopF (fun f i x => F_X12_stops_27 h f 81 c what (nI (x).1) (nI (x).2 - 1) (nI i)) (N) (fun i x => ((x).1 + (if notedQ A c i then 1 else 0), if notedQ A c i then i + 1 else (x).2)) (some (if what = 0 then nI (sumN N fun k => if notedQ A c k then 1 else 0) else nI (foldN N (fun k x => if notedQ A c k then k + 1 else x) 0) - 1)) (fun _ _ => True) ((0 : Nat), (0 : Nat)) ?_ (fun _ _ _ _ _ => trivial) ?_ trivial pg_fuel (by unfold pg_fuel; omega)
  · exact z
  · intro f i x hi _ _
    show F_X12_stops_27 h (f + 1) 81 c what (nI (x).1) (nI (x).2 - 1) (nI i) = F_X12_stops_27 h f 81 c what (nI ((((x).1 + (if notedQ A c i then 1 else 0), if notedQ A c i then i + 1 else (x).2))).1) (nI ((((x).1 + (if notedQ A c i then 1 else 0), if notedQ A c i then i + 1 else (x).2))).2 - 1) (nI (i + 1))
    rw [F_X12_stops_27]
    dsimp only
    rw [if_pos (show nI i < (12 : Int32) from nI_lt (b := 12) (by omega) (by decide)), rc_81 L, m_isNoted L M K c (by omega), Option.bind_some]
    unfold F_X12_stops_54
    rw [nI_1]
    cases notedQ A c i with
    | false =>
      exact if_pos rfl
    | true =>
      rw [if_neg (show ¬ b01 true = 0 by decide)]
      simp only [if_true]
      rw [nI_1, nI_pred]
  · intro f _
    have hp : (foldN (N) (fun i x => ((x).1 + (if notedQ A c i then 1 else 0), if notedQ A c i then i + 1 else (x).2)) ((0 : Nat), (0 : Nat))) = (sumN N (fun k => if notedQ A c k then 1 else 0), foldN N (fun k x => if notedQ A c k then k + 1 else x) 0) :=
      (foldN_pair (f := fun i x => x + (if notedQ A c i then 1 else 0)) (g := fun i x => if notedQ A c i then i + 1 else x)).trans (by rw [foldN_sum (f := fun k => if notedQ A c k then 1 else 0)])
    rw [hp]
    show F_X12_stops_27 h (f + 1) 81 c what (nI (((sumN N (fun k => if notedQ A c k then 1 else 0), foldN N (fun k x => if notedQ A c k then k + 1 else x) 0))).1) (nI (((sumN N (fun k => if notedQ A c k then 1 else 0), foldN N (fun k x => if notedQ A c k then k + 1 else x) 0))).2 - 1) (nI (N)) = _
    rw [F_X12_stops_27]
    dsimp only
    rw [if_neg (show ¬ nI N < (12 : Int32) from nI_nlt (b := 12) (by omega) (by omega))]
    by_cases e : what = 0
    · rw [if_pos e, if_pos e]
    · rw [if_neg e, if_neg e]
theorem foldN_cong {σ : Type} {n : Nat} {f g : Nat → σ → σ} {s : σ} (h : ∀ i x, i < n → f i x = g i x) : foldN n f s = foldN n g s := by
  induction n with
  | zero => rfl
  | succ n ih =>
    show f n (foldN n f s) = g n (foldN n g s)
    rw [ih (fun i x hi => h i x (by omega)), h n _ (by omega)]
theorem topB_mk (f : Nat → Bool) : topB (mk 12 f) = foldN 12 (fun k x => if f k then k + 1 else x) 0 := by
  unfold topB
  refine foldN_cong (fun i x hi => ?_)
  rw [mk_bit, decide_eq_true hi, Bool.true_and]
theorem c_lastBit (f : Nat → Bool) : F_X11_lastBit (nI (mk 12 f)) = some (nI (foldN 12 (fun k x => if f k then k + 1 else x) 0) - 1) := by
  unfold F_X11_lastBit
  rw [nlz12 _ (mk_lt 12 f), Option.bind_some, topB_mk]
  refine congrArg some ?_
  generalize nI (foldN 12 (fun k x => if f k then k + 1 else x) 0) = y
  apply Int32.toBitVec_inj.mp
  show 31#32 - (32#32 - y.toBitVec) = y.toBitVec - 1#32
  generalize y.toBitVec = v
  bv_omega
theorem c_stops {h : pg_H} {A : Nat → Int32} (L : Lay h) (C : CNum h 2 A) (K : ShOK A) (c what : Int32) : (Option.bind (F_X5_chaptersWritten h 2 c) fun v6 => if what = 0 then Option.bind (F_J6_bitCount_0f7a4 v6) fun v8 => some v8 else Option.bind (F_X11_lastBit v6) fun v7 => some v7) = some (if what = 0 then nI (stopN A c) else nI (stopL A c) - 1) := by
  rw [c_chaptersWritten L C K, Option.bind_some, bc_mk, c_lastBit]
  by_cases e : what = 0
  · rw [if_pos e, if_pos e]
    rfl
  · rw [if_neg e, if_neg e]
    rfl

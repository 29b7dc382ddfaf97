/-! pure pictures: bits of small masks, copies, the or over the slots, the writes of a commit -/
def bh_bit (m j : Nat) : Nat := m / 2 ^ j % 2
theorem bh_bit01 (m j : Nat) : bh_bit m j = 0 ∨ bh_bit m j = 1 := by
  unfold bh_bit
  omega
/-- open mask: the test of a bit -/
theorem bh_oT : ∀ m, m < 16 → ∀ j, j < 4 → ((nI m &&& ((1 : Int32) <<< (nI j &&& 31)) = 0) ↔ bh_bit m j = 0) := by decide +kernel
/-- open mask: set a bit -/
theorem bh_oS : ∀ m, m < 16 → ∀ j, j < 4 → nI m ||| ((1 : Int32) <<< (nI j &&& 31)) = nI (m ||| 2 ^ j) := by decide +kernel
theorem bh_oS16 : ∀ m, m < 16 → ∀ j, j < 4 → m ||| 2 ^ j < 16 := by decide +kernel
theorem bh_oSb : ∀ m, m < 16 → ∀ j, j < 4 → ∀ i, i < 4 → bh_bit (m ||| 2 ^ j) i = if i = j then 1 else bh_bit m i := by decide +kernel
/-- open mask: clear a bit -/
def bh_clr (m j : Nat) : Nat := m - bh_bit m j * 2 ^ j
theorem bh_oC : ∀ m, m < 16 → ∀ j, j < 4 → nI m &&& (((1 : Int32) <<< (nI j &&& 31)) ^^^ (-1)) = nI (bh_clr m j) := by decide +kernel
theorem bh_oC16 : ∀ m, m < 16 → ∀ j, j < 4 → bh_clr m j < 16 := by decide +kernel
theorem bh_oCb : ∀ m, m < 16 → ∀ j, j < 4 → ∀ i, i < 4 → bh_bit (bh_clr m j) i = if i = j then 0 else bh_bit m i := by decide +kernel
/-- open(): the mask of the slots below t, grown by a slot -/
theorem bh_oG0 : ∀ m, m < 16 → ∀ j, j < 4 → bh_bit m j = 0 → nI (m % 2 ^ j) ||| 0 = nI (m % 2 ^ (j + 1)) := by decide +kernel
theorem bh_oG1 : ∀ m, m < 16 → ∀ j, j < 4 → ¬ bh_bit m j = 0 → nI (m % 2 ^ j) ||| ((1 : Int32) <<< (nI j &&& 31)) = nI (m % 2 ^ (j + 1)) := by decide +kernel
/-- wrote mask: X's and Y's test of a key, and a write -/
theorem bh_wX : ∀ w, w < 256 → ∀ j, j < 8 → ((nI w &&& ((1 : Int32) <<< (nI j &&& 31)) = 0) ↔ bh_bit w j = 0) := by decide +kernel
theorem bh_wY : ∀ w, w < 256 → ∀ j, j < 8 → (((nI w >>> (nI j &&& 31)) &&& 1 = 1) ↔ ¬ bh_bit w j = 0) := by decide +kernel
theorem bh_wS : ∀ w, w < 256 → ∀ j, j < 8 → nI w ||| ((1 : Int32) <<< (nI j &&& 31)) = nI (w ||| 2 ^ j) := by decide +kernel
theorem bh_wS256 : ∀ w, w < 256 → ∀ j, j < 8 → w ||| 2 ^ j < 256 := by decide +kernel
/-- d keys from i on: how many of them are written -/
def bh_ct (w : Nat) : Nat → Nat → Nat
  | 0, _ => 0
  | d + 1, i => bh_bit w i + bh_ct w d (i + 1)
theorem bh_ct0 : ∀ w, w < 256 → (bh_ct w 8 0 = 0 ↔ w = 0) := by decide +kernel
theorem bh_ctle (w : Nat) : ∀ d i, bh_ct w d i ≤ d := by
  intro d
  induction d with
  | zero => intro i; exact Nat.le_refl 0
  | succ d ih =>
    intro i
    have h := ih (i + 1)
    have h2 := bh_bit01 w i
    show bh_bit w i + bh_ct w d (i + 1) ≤ d + 1
    omega
/-- d cells from i on: f copied to a, b cells further on -/
def bh_cp (f : Nat → Int32) (b : Nat) : Nat → Nat → (Nat → Int32) → (Nat → Int32)
  | 0, _, a => a
  | d + 1, i, a => bh_cp f b d (i + 1) (upd a (b + i) (f i))
/-- d slots from i on: km or'ed into a -/
def bh_or (km : Int32) : Nat → Nat → (Nat → Int32) → (Nat → Int32)
  | 0, _, a => a
  | d + 1, i, a => bh_or km d (i + 1) (upd a i (a i ||| km))
/-- d keys from i on: the written ones (w) of row b of s into a -/
def bh_ap (w : Nat) (s : Nat → Int32) (b : Nat) : Nat → Nat → (Nat → Int32) → (Nat → Int32)
  | 0, _, a => a
  | d + 1, i, a => bh_ap w s b d (i + 1) (if bh_bit w i = 0 then a else upd a i (s (b + i)))
/-- d slots from i on: the least free one -/
def bh_fr (m : Nat) : Nat → Nat → Nat
  | 0, i => i
  | d + 1, i => if bh_bit m i = 0 then i else bh_fr m d (i + 1)
/-- d slots from i on: cleared -/
def bh_z : Nat → Nat → (Nat → Int32) → (Nat → Int32)
  | 0, _, a => a
  | d + 1, i, a => bh_z d (i + 1) (upd a i 0)
theorem bh_us {f : Nat → Int32} {k : Nat} {x : Int32} : upd f k x k = x := if_pos rfl
theorem bh_un {f : Nat → Int32} {k j : Nat} {x : Int32} (h : j ≠ k) : upd f k x j = f j := if_neg h
theorem bh_z4 (a : Nat → Int32) (j : Nat) (hj : j < 4) : bh_z 4 0 a j = 0 := by
  show upd (upd (upd (upd a 0 0) 1 0) 2 0) 3 0 j = 0
  by_cases h3 : j = 3
  · rw [h3]; exact bh_us
  · rw [bh_un h3]
    by_cases h2 : j = 2
    · rw [h2]; exact bh_us
    · rw [bh_un h2]
      by_cases h1 : j = 1
      · rw [h1]; exact bh_us
      · rw [bh_un h1]
        have h0 : j = 0 := by omega
        rw [h0]; exact bh_us
theorem bh_mul (a b : Nat) : nI a * nI b = nI (a * b) := (Int32.ofNat_mul a b).symm
theorem bh_sub {a b : Nat} (h : b ≤ a) : nI a - nI b = nI (a - b) := by
  obtain ⟨c, rfl⟩ : ∃ c, a = c + b := ⟨a - b, by omega⟩
  rw [← nI_add, Int32.add_sub_cancel, Nat.add_sub_cancel]
/-- the cells of row t -/
theorem bh_rX (t i : Nat) : nI t * 8 + nI i = nI (8 * t + i) := by
  rw [show (8 : Int32) = nI 8 from rfl, bh_mul, nI_add, Nat.mul_comm]
theorem bh_rY (t i : Nat) : 8 * nI t + nI i = nI (8 * t + i) := by
  rw [show (8 : Int32) = nI 8 from rfl, bh_mul, nI_add]

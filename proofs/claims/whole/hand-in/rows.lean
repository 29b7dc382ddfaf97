section
/-! pure pictures: bits of small masks, copies, the or over the slots, the writes of a commit -/
def bh_bit (m j : Nat) : Nat := m / 2 ^ j % 2
theorem bh_bit01 (m j : Nat) : bh_bit m j = 0 ∨ bh_bit m j = 1 := by
  unfold bh_bit
  omega
/-- open mask: the test of a bit -/
theorem bh_oT : ∀ m, m < 16 → ∀ j, j < 4 → ((nI m &&& ((1 : Int32) <<< (nI j &&& 31)) = 0) ↔ bh_bit m j = 0) := by decide +kernel
/-- open mask: set a bit -/
theorem bh_oS : ∀ m, m < 16 → ∀ j, j < 4 → nI m ||| ((1 : Int32) <<< (nI j &&& 31)) = nI (m ||| 2 ^ j) := by decide +kernel
theorem bh_oS16 : ∀ m, m < 16 → ∀ j, j < 4 → m ||| 2 ^ j < 16 := by decide +kernel
theorem bh_oSb : ∀ m, m < 16 → ∀ j, j < 4 → ∀ i, i < 4 → bh_bit (m ||| 2 ^ j) i = if i = j then 1 else bh_bit m i := by decide +kernel
/-- open mask: clear a bit -/
def bh_clr (m j : Nat) : Nat := m - bh_bit m j * 2 ^ j
theorem bh_oC : ∀ m, m < 16 → ∀ j, j < 4 → nI m &&& (((1 : Int32) <<< (nI j &&& 31)) ^^^ (-1)) = nI (bh_clr m j) := by decide +kernel
theorem bh_oC16 : ∀ m, m < 16 → ∀ j, j < 4 → bh_clr m j < 16 := by decide +kernel
theorem bh_oCb : ∀ m, m < 16 → ∀ j, j < 4 → ∀ i, i < 4 → bh_bit (bh_clr m j) i = if i = j then 0 else bh_bit m i := by decide +kernel
/-- open(): the mask of the slots below t, grown by a slot -/
theorem bh_oG0 : ∀ m, m < 16 → ∀ j, j < 4 → bh_bit m j = 0 → nI (m % 2 ^ j) ||| 0 = nI (m % 2 ^ (j + 1)) := by decide +kernel
theorem bh_oG1 : ∀ m, m < 16 → ∀ j, j < 4 → ¬ bh_bit m j = 0 → nI (m % 2 ^ j) ||| ((1 : Int32) <<< (nI j &&& 31)) = nI (m % 2 ^ (j + 1)) := by decide +kernel
/-- wrote mask: X's and Y's test of a key, and a write -/
theorem bh_wX : ∀ w, w < 256 → ∀ j, j < 8 → ((nI w &&& ((1 : Int32) <<< (nI j &&& 31)) = 0) ↔ bh_bit w j = 0) := by decide +kernel
theorem bh_wY : ∀ w, w < 256 → ∀ j, j < 8 → (((nI w >>> (nI j &&& 31)) &&& 1 = 1) ↔ ¬ bh_bit w j = 0) := by decide +kernel
theorem bh_wS : ∀ w, w < 256 → ∀ j, j < 8 → nI w ||| ((1 : Int32) <<< (nI j &&& 31)) = nI (w ||| 2 ^ j) := by decide +kernel
theorem bh_wS256 : ∀ w, w < 256 → ∀ j, j < 8 → w ||| 2 ^ j < 256 := by decide +kernel
/-- d keys from i on: how many of them are written -/
def bh_ct (w : Nat) : Nat → Nat → Nat
  | 0, _ => 0
  | d + 1, i => bh_bit w i + bh_ct w d (i + 1)
theorem bh_ct0 : ∀ w, w < 256 → (bh_ct w 8 0 = 0 ↔ w = 0) := by decide +kernel
theorem bh_ctle (w : Nat) : ∀ d i, bh_ct w d i ≤ d := by
  intro d
  induction d with
  | zero => intro i; exact Nat.le_refl 0
  | succ d ih =>
    intro i
    have h := ih (i + 1)
    have h2 := bh_bit01 w i
    show bh_bit w i + bh_ct w d (i + 1) ≤ d + 1
    omega
/-- d cells from i on: f copied to a, b cells further on -/
def bh_cp (f : Nat → Int32) (b : Nat) : Nat → Nat → (Nat → Int32) → (Nat → Int32)
  | 0, _, a => a
  | d + 1, i, a => bh_cp f b d (i + 1) (upd a (b + i) (f i))
/-- d slots from i on: km or'ed into a -/
def bh_or (km : Int32) : Nat → Nat → (Nat → Int32) → (Nat → Int32)
  | 0, _, a => a
  | d + 1, i, a => bh_or km d (i + 1) (upd a i (a i ||| km))
/-- d keys from i on: the written ones (w) of row b of s into a -/
def bh_ap (w : Nat) (s : Nat → Int32) (b : Nat) : Nat → Nat → (Nat → Int32) → (Nat → Int32)
  | 0, _, a => a
  | d + 1, i, a => bh_ap w s b d (i + 1) (if bh_bit w i = 0 then a else upd a i (s (b + i)))
/-- d slots from i on: the least free one -/
def bh_fr (m : Nat) : Nat → Nat → Nat
  | 0, i => i
  | d + 1, i => if bh_bit m i = 0 then i else bh_fr m d (i + 1)
/-- d slots from i on: cleared -/
def bh_z : Nat → Nat → (Nat → Int32) → (Nat → Int32)
  | 0, _, a => a
  | d + 1, i, a => bh_z d (i + 1) (upd a i 0)
theorem bh_us {f : Nat → Int32} {k : Nat} {x : Int32} : upd f k x k = x := if_pos rfl
theorem bh_un {f : Nat → Int32} {k j : Nat} {x : Int32} (h : j ≠ k) : upd f k x j = f j := if_neg h
theorem bh_z4 (a : Nat → Int32) (j : Nat) (hj : j < 4) : bh_z 4 0 a j = 0 := by
  show upd (upd (upd (upd a 0 0) 1 0) 2 0) 3 0 j = 0
  by_cases h3 : j = 3
  · rw [h3]; exact bh_us
  · rw [bh_un h3]
    by_cases h2 : j = 2
    · rw [h2]; exact bh_us
    · rw [bh_un h2]
      by_cases h1 : j = 1
      · rw [h1]; exact bh_us
      · rw [bh_un h1]
        have h0 : j = 0 := by omega
        rw [h0]; exact bh_us
theorem bh_mul (a b : Nat) : nI a * nI b = nI (a * b) := (Int32.ofNat_mul a b).symm
theorem bh_sub {a b : Nat} (h : b ≤ a) : nI a - nI b = nI (a - b) := by
  obtain ⟨c, rfl⟩ : ∃ c, a = c + b := ⟨a - b, by omega⟩
  rw [← nI_add, Int32.add_sub_cancel, Nat.add_sub_cancel]
/-- the cells of row t -/
theorem bh_rX (t i : Nat) : nI t * 8 + nI i = nI (8 * t + i) := by
  rw [show (8 : Int32) = nI 8 from rfl, bh_mul, nI_add, Nat.mul_comm]
theorem bh_rY (t i : Nat) : 8 * nI t + nI i = nI (8 * t + i) := by
  rw [show (8 : Int32) = nI 8 from rfl, bh_mul, nI_add]
end
section
/-! the walks of the private methods and of the loops, each against its pure picture, with a general post -/
theorem bh_8f {i : Nat} (h : i < 8) : ¬ (8 : Int32) ≤ nI i := nI_ge (b := 8) h (by decide)
theorem bh_8t {i : Nat} (h : i = 8) : (8 : Int32) ≤ nI i := by
  subst h
  exact nI_le (a := 8) (b := 8) (by decide) (by decide)
theorem bh_4f {i : Nat} (h : i < 4) : ¬ (4 : Int32) ≤ nI i := nI_ge (b := 4) h (by decide)
theorem bh_4t {i : Nat} (h : i = 4) : (4 : Int32) ≤ nI i := by
  subst h
  exact nI_le (a := 4) (b := 4) (by decide) (by decide)
theorem bh_in8 {i : Nat} (h : i < 8) : vp_in (nI i) 8 := vp_in_nI h (by decide)
theorem bh_in4 {i : Nat} (h : i < 4) : vp_in (nI i) 4 := vp_in_nI h (by decide)
theorem bh_cl {i : Nat} (h : i < 32) : (nI i).toNatClampNeg = i := nI_clamp (by omega)
theorem bh_inX {t i : Nat} (ht : t < 4) (hi : i < 8) : vp_in (nI t * 8 + nI i) 32 := by
  rw [bh_rX]
  exact vp_in_nI (by omega) (by decide)
theorem bh_inY {t i : Nat} (ht : t < 4) (hi : i < 8) : vp_in (8 * nI t + nI i) 32 := by
  rw [bh_rY]
  exact vp_in_nI (by omega) (by decide)
theorem bh_cX {t i : Nat} (ht : t < 4) (hi : i < 8) : (nI t * 8 + nI i).toNatClampNeg = 8 * t + i := by
  rw [bh_rX]
  exact bh_cl (by omega)
theorem bh_cY {t i : Nat} (ht : t < 4) (hi : i < 8) : (8 * nI t + nI i).toNatClampNeg = 8 * t + i := by
  rw [bh_rY]
  exact bh_cl (by omega)
theorem bh_nb0 : vp_nar .boolean 0 = 0 := by first | rfl | decide
theorem bh_nb1 : vp_nar .boolean 1 = 1 := by first | rfl | decide
theorem bh_b0 {m j : Nat} : nI (bh_bit m j) = 0 ↔ bh_bit m j = 0 := by
  rcases bh_bit01 m j with h | h
  · rw [h]; exact ⟨fun _ => rfl, fun _ => rfl⟩
  · rw [h]; exact ⟨fun e => absurd e (by decide), fun e => absurd e (by decide)⟩
/-- a number of a transaction that is not open -/
def bh_no (m : Nat) (x : Int32) : Prop := x < 0 ∨ (4 : Int32) ≤ x ∨ ∃ j : Nat, j < 4 ∧ x = nI j ∧ bh_bit m j = 0
theorem bh_op (m : Nat) (x : Int32) : (∃ j : Nat, j < 4 ∧ x = nI j ∧ ¬ bh_bit m j = 0) ∨ bh_no m x := by
  by_cases h0 : x < 0
  · exact Or.inr (Or.inl h0)
  · obtain ⟨j, hj, rfl⟩ := nI_of h0
    by_cases h4 : j < 4
    · by_cases hb : bh_bit m j = 0
      · exact Or.inr (Or.inr (Or.inr ⟨j, h4, rfl, hb⟩))
      · exact Or.inl ⟨j, h4, rfl, hb⟩
    · exact Or.inr (Or.inr (Or.inl (nI_le (a := 4) (by omega) hj)))
def bh_nk (x : Int32) : Prop := x < 0 ∨ (8 : Int32) ≤ x
theorem bh_ky (x : Int32) : (∃ j : Nat, j < 8 ∧ x = nI j) ∨ bh_nk x := by
  by_cases h0 : x < 0
  · exact Or.inr (Or.inl h0)
  · obtain ⟨j, hj, rfl⟩ := nI_of h0
    by_cases h8 : j < 8
    · exact Or.inl ⟨j, h8, rfl⟩
    · exact Or.inr (Or.inr (nI_le (a := 8) (by omega) hj))
section
variable {post : Int32 → Prop} {fc ff fs fw fg : Int32} {la fl sa se wr ov bu : Nat → Int32} {m : Nat}
theorem bh_XoT (hm : m < 16) {j : Nat} (hj : j < 4) (hb : ¬ bh_bit m j = 0) (hp : post 1) : wpX_isOpen post (fc, ff, fs, fw, fg, nI m, la, fl, sa, se, wr, ov) (nI j) :=
  br_f (nI_pos (by omega)) (br_f (bh_4f hj) (br_f (fun e => hb ((bh_oT m hm j hj).mp e)) hp))
theorem bh_XoF (hm : m < 16) {x : Int32} (hn : bh_no m x) (hp : post 0) : wpX_isOpen post (fc, ff, fs, fw, fg, nI m, la, fl, sa, se, wr, ov) x := by
  rcases hn with h | h | ⟨j, hj, rfl, hb⟩
  · exact br_t h hp
  · exact br_c (fun _ => hp) (fun _ => br_t h hp)
  · exact br_f (nI_pos (by omega)) (br_f (bh_4f hj) (br_t ((bh_oT m hm j hj).mpr hb) hp))
theorem bh_YoT (hu : ∀ j, j < 4 → bu j = nI (bh_bit m j)) {fn fx : Int32} {j : Nat} (hj : j < 4) (hb : ¬ bh_bit m j = 0) (hp : post 1) : wpY_isOpen post (fs, ff, fc, fn, fx, sa, fl, la, bu, se, wr, ov) (nI j) :=
  br_f (nI_pos (by omega)) (br_f (bh_4f hj) ⟨bh_in4 hj, br_f (fun e => hb (bh_b0.mp (by rw [bh_cl (by omega), hu j hj] at e; exact e))) hp⟩)
theorem bh_YoF (hu : ∀ j, j < 4 → bu j = nI (bh_bit m j)) {fn fx x : Int32} (hn : bh_no m x) (hp : post 0) : wpY_isOpen post (fs, ff, fc, fn, fx, sa, fl, la, bu, se, wr, ov) x := by
  rcases hn with h | h | ⟨j, hj, rfl, hb⟩
  · exact br_t h hp
  · exact br_c (fun _ => hp) (fun _ => br_t h hp)
  · exact br_f (nI_pos (by omega)) (br_f (bh_4f hj) ⟨bh_in4 hj, br_t (by rw [bh_cl (by omega), hu j hj]; exact bh_b0.mpr hb) hp⟩)
theorem bh_XkT {j : Nat} (hj : j < 8) (hp : post 1) : wpX_isKey post (nI j) :=
  br_f (nI_pos (by omega)) (br_f (bh_8f hj) hp)
theorem bh_XkF {x : Int32} (hn : bh_nk x) (hp : post 0) : wpX_isKey post x := by
  rcases hn with h | h
  · exact br_t h hp
  · exact br_c (fun _ => hp) (fun _ => br_t h hp)
theorem bh_YkT {fn fx : Int32} {j : Nat} (hj : j < 8) (hp : post 1) : wpY_isKey post (fs, ff, fc, fn, fx, sa, fl, la, bu, se, wr, ov) (nI j) :=
  br_f (nI_pos (by omega)) (br_f (bh_8f hj) hp)
theorem bh_YkF {fn fx x : Int32} (hn : bh_nk x) (hp : post 0) : wpY_isKey post (fs, ff, fc, fn, fx, sa, fl, la, bu, se, wr, ov) x := by
  rcases hn with h | h
  · exact br_t h hp
  · exact br_c (fun _ => hp) (fun _ => br_t h hp)
end
section
variable {post : SX → Prop} {fc ff fs fw fg fo : Int32} {la fl sa se wr ov : Nat → Int32}
theorem bh_XstL {t : Nat} (ht : t < 4) : ∀ (d i : Nat) (se : Nat → Int32), i + d = 8 → post (fc, ff, fs, fw, fg, fo, la, fl, sa, bh_cp la (8 * t) d i se, wr, ov) → wX_start_28 post (nI t) fc ff fs fw fg fo (d + 1) (nI i) la fl sa se wr ov := by
  intro d
  induction d with
  | zero => intro i se hi hp; exact br_t (bh_8t hi) hp
  | succ d ih =>
    intro i se hi hp
    exact br_f (bh_8f (by omega)) ⟨bh_in8 (by omega), bh_inX ht (by omega), nm_r (e' := upd se (8 * t + i) (la i)) (by rw [bh_cX ht (by omega), bh_cl (by omega)]) (nm_r (nI_1 i) (ih (i + 1) _ (by omega) hp))⟩
theorem bh_Xst {t m : Nat} (ht : t < 4) (hm : m < 16) (hp : post (fc, ff, fs, fw, fg, nI (m ||| 2 ^ t), la, fl, sa, bh_cp la (8 * t) 8 0 se, upd wr t 0, upd ov t 0)) : wpX_start post (fc, ff, fs, fw, fg, nI m, la, fl, sa, se, wr, ov) (nI t) :=
  nm_r (bh_oS m hm t ht) ⟨bh_in4 ht, nm_r (e' := upd wr t 0) (by rw [bh_cl (by omega)]) ⟨bh_in4 ht, nm_r (e' := upd ov t 0) (by rw [bh_cl (by omega)]) ⟨9, bh_XstL ht 8 0 se rfl hp⟩⟩⟩
theorem bh_Xcl {t m : Nat} (ht : t < 4) (hm : m < 16) (hp : post (fc, ff, fs, fw, fg, nI (bh_clr m t), la, fl, sa, se, wr, ov)) : wpX_close post (fc, ff, fs, fw, fg, nI m, la, fl, sa, se, wr, ov) (nI t) :=
  nm_r (bh_oC m hm t ht) hp
theorem bh_XapL {t q : Nat} (ht : t < 4) (hq : q < 256) (hw : wr t = nI q) : ∀ (d i w : Nat) (la : Nat → Int32), i + d = 8 → post (fc, ff, fs, nI (w + bh_ct q d i), fg, fo, bh_ap q se (8 * t) d i la, fl, sa, se, wr, ov) → wX_applyWrites_2 post (nI t) fc ff fs fg fo (d + 1) (nI i) (nI w) la fl sa se wr ov := by
  intro d
  induction d with
  | zero => intro i w la hi hp; exact br_t (bh_8t hi) hp
  | succ d ih =>
    intro i w la hi hp
    have hi8 : i < 8 := by omega
    by_cases hb : bh_bit q i = 0
    · have e1 : bh_ct q (d + 1) i = bh_ct q d (i + 1) := by
        show bh_bit q i + bh_ct q d (i + 1) = _
        rw [hb, Nat.zero_add]
      have e2 : bh_ap q se (8 * t) (d + 1) i la = bh_ap q se (8 * t) d (i + 1) la := by
        show bh_ap q se (8 * t) d (i + 1) (if bh_bit q i = 0 then la else upd la i (se (8 * t + i))) = _
        rw [if_pos hb]
      rw [e1, e2] at hp
      exact br_f (bh_8f hi8) ⟨bh_in4 ht, br_t (by rw [bh_cl (by omega), hw]; exact (bh_wX q hq i hi8).mpr hb) (nm_r (nI_1 i) (ih (i + 1) w la (by omega) hp))⟩
    · have e1 : w + bh_ct q (d + 1) i = (w + 1) + bh_ct q d (i + 1) := by
        have h1 : bh_bit q i = 1 := (bh_bit01 q i).resolve_left hb
        show w + (bh_bit q i + bh_ct q d (i + 1)) = _
        omega
      have e2 : bh_ap q se (8 * t) (d + 1) i la = bh_ap q se (8 * t) d (i + 1) (upd la i (se (8 * t + i))) := by
        show bh_ap q se (8 * t) d (i + 1) (if bh_bit q i = 0 then la else upd la i (se (8 * t + i))) = _
        rw [if_neg hb]
      rw [e1, e2] at hp
      exact br_f (bh_8f hi8) ⟨bh_in4 ht, br_f (by rw [bh_cl (by omega), hw]; exact fun e => hb ((bh_wX q hq i hi8).mp e)) ⟨bh_inX ht hi8, bh_in8 hi8, nm_r (e' := upd la i (se (8 * t + i))) (by rw [bh_cX ht hi8, bh_cl (by omega)]) (nm_r (nI_1 w) (nm_r (nI_1 i) (ih (i + 1) (w + 1) _ (by omega) hp)))⟩⟩
theorem bh_Xap {t q w : Nat} (ht : t < 4) (hq : q < 256) (hw : wr t = nI q) (hp : post (fc, ff, fs, nI (w + bh_ct q 8 0), fg, fo, bh_ap q se (8 * t) 8 0 la, fl, sa, se, wr, ov)) : wpX_applyWrites post (fc, ff, fs, nI w, fg, fo, la, fl, sa, se, wr, ov) (nI t) :=
  ⟨9, bh_XapL ht hq hw 8 0 w la rfl hp⟩
theorem bh_XorL {km : Int32} : ∀ (d i : Nat) (ov : Nat → Int32), i + d = 4 → post (fc, ff, fs, fw, fg, fo, la, fl, sa, se, wr, bh_or km d i ov) → wX_overtakeAll_2 post km fc ff fs fw fg fo (d + 1) (nI i) la fl sa se wr ov := by
  intro d
  induction d with
  | zero => intro i ov hi hp; exact br_t (bh_4t hi) hp
  | succ d ih =>
    intro i ov hi hp
    exact br_f (bh_4f (by omega)) ⟨bh_in4 (by omega), bh_in4 (by omega), nm_r (e' := upd ov i (ov i ||| km)) (by rw [bh_cl (by omega)]) (nm_r (nI_1 i) (ih (i + 1) _ (by omega) hp))⟩
theorem bh_Xor {km : Int32} (hp : post (fc, ff, fs, fw, fg, fo, la, fl, sa, se, wr, bh_or km 4 0 ov)) : wpX_overtakeAll post (fc, ff, fs, fw, fg, fo, la, fl, sa, se, wr, ov) km :=
  ⟨5, bh_XorL 4 0 ov rfl hp⟩
theorem bh_XcpA : ∀ (d i : Nat) (fl : Nat → Int32), i + d = 8 → post (fc, ff, fs, fw, fg, fo, la, bh_cp la 0 d i fl, sa, se, wr, ov) → wX_copyState__latest_flushing_2 post fc ff fs fw fg fo (d + 1) (nI i) la fl sa se wr ov := by
  intro d
  induction d with
  | zero => intro i fl hi hp; exact br_t (bh_8t hi) hp
  | succ d ih =>
    intro i fl hi hp
    exact br_f (bh_8f (by omega)) ⟨bh_in8 (by omega), bh_in8 (by omega), nm_r (e' := upd fl (0 + i) (la i)) (by rw [bh_cl (by omega), Nat.zero_add]) (nm_r (nI_1 i) (ih (i + 1) _ (by omega) hp))⟩
theorem bh_XcA (hp : post (fc, ff, fs, fw, fg, fo, la, bh_cp la 0 8 0 fl, sa, se, wr, ov)) : wpX_copyState__latest_flushing post (fc, ff, fs, fw, fg, fo, la, fl, sa, se, wr, ov) :=
  ⟨9, bh_XcpA 8 0 fl rfl hp⟩
theorem bh_XcpB : ∀ (d i : Nat) (sa : Nat → Int32), i + d = 8 → post (fc, ff, fs, fw, fg, fo, la, fl, bh_cp fl 0 d i sa, se, wr, ov) → wX_copyState__flushing_safe_2 post fc ff fs fw fg fo (d + 1) (nI i) la fl sa se wr ov := by
  intro d
  induction d with
  | zero => intro i sa hi hp; exact br_t (bh_8t hi) hp
  | succ d ih =>
    intro i sa hi hp
    exact br_f (bh_8f (by omega)) ⟨bh_in8 (by omega), bh_in8 (by omega), nm_r (e' := upd sa (0 + i) (fl i)) (by rw [bh_cl (by omega), Nat.zero_add]) (nm_r (nI_1 i) (ih (i + 1) _ (by omega) hp))⟩
theorem bh_XcB (hp : post (fc, ff, fs, fw, fg, fo, la, fl, bh_cp fl 0 8 0 sa, se, wr, ov)) : wpX_copyState__flushing_safe post (fc, ff, fs, fw, fg, fo, la, fl, sa, se, wr, ov) :=
  ⟨9, bh_XcpB 8 0 sa rfl hp⟩
theorem bh_XcpC : ∀ (d i : Nat) (la : Nat → Int32), i + d = 8 → post (fc, ff, fs, fw, fg, fo, bh_cp sa 0 d i la, fl, sa, se, wr, ov) → wX_copyState__safe_latest_2 post fc ff fs fw fg fo (d + 1) (nI i) la fl sa se wr ov := by
  intro d
  induction d with
  | zero => intro i la hi hp; exact br_t (bh_8t hi) hp
  | succ d ih =>
    intro i la hi hp
    exact br_f (bh_8f (by omega)) ⟨bh_in8 (by omega), bh_in8 (by omega), nm_r (e' := upd la (0 + i) (sa i)) (by rw [bh_cl (by omega), Nat.zero_add]) (nm_r (nI_1 i) (ih (i + 1) _ (by omega) hp))⟩
theorem bh_XcC (hp : post (fc, ff, fs, fw, fg, fo, bh_cp sa 0 8 0 la, fl, sa, se, wr, ov)) : wpX_copyState__safe_latest post (fc, ff, fs, fw, fg, fo, la, fl, sa, se, wr, ov) :=
  ⟨9, bh_XcpC 8 0 la rfl hp⟩
end
end
section
/-! the reference's loops, and begin's walk on both sides -/
section
variable {post : SY → Prop} {fs ff fc fg fw : Int32} {sa fl la bu se wr ov : Nat → Int32}
theorem bh_YorL {t : Nat} (ht : t < 4) : ∀ (d i : Nat) (ov : Nat → Int32), i + d = 4 → post (fs, ff, fc, fg, fw, sa, fl, la, bu, se, wr, bh_or (wr t) d i ov) → wY_apply_67 post (nI t) fs ff fc fg fw (d + 1) (nI i) sa fl la bu se wr ov := by
  intro d
  induction d with
  | zero => intro i ov hi hp; exact br_t (bh_4t hi) hp
  | succ d ih =>
    intro i ov hi hp
    exact br_f (bh_4f (by omega)) ⟨bh_in4 (by omega), bh_in4 ht, bh_in4 (by omega), nm_r (e' := upd ov i (ov i ||| wr t)) (by rw [bh_cl (by omega), bh_cl (by omega)]) (nm_r (nI_1 i) (ih (i + 1) _ (by omega) hp))⟩
theorem bh_YapL {t q : Nat} (ht : t < 4) (hq : q < 256) (hw : wr t = nI q) : ∀ (d i w : Nat) (la : Nat → Int32), i + d = 8 → post (fs, ff, fc, fg, nI (w + bh_ct q d i), sa, fl, bh_ap q se (8 * t) d i la, bu, se, wr, bh_or (wr t) 4 0 ov) → wY_apply_12 post (nI t) fs ff fc fg (d + 1) (nI i) (nI w) sa fl la bu se wr ov := by
  intro d
  induction d with
  | zero => intro i w la hi hp; exact br_t (bh_8t hi) ⟨5, bh_YorL ht 4 0 ov rfl hp⟩
  | succ d ih =>
    intro i w la hi hp
    have hi8 : i < 8 := by omega
    by_cases hb : bh_bit q i = 0
    · have e1 : bh_ct q (d + 1) i = bh_ct q d (i + 1) := by
        show bh_bit q i + bh_ct q d (i + 1) = _
        rw [hb, Nat.zero_add]
      have e2 : bh_ap q se (8 * t) (d + 1) i la = bh_ap q se (8 * t) d (i + 1) la := by
        show bh_ap q se (8 * t) d (i + 1) (if bh_bit q i = 0 then la else upd la i (se (8 * t + i))) = _
        rw [if_pos hb]
      rw [e1, e2] at hp
      exact br_f (bh_8f hi8) ⟨bh_in4 ht, br_f (by rw [bh_cl (by omega), hw]; exact fun e => (bh_wY q hq i hi8).mp e hb) (nm_r (nI_1 i) (ih (i + 1) w la (by omega) hp))⟩
    · have e1 : w + bh_ct q (d + 1) i = (w + 1) + bh_ct q d (i + 1) := by
        have h1 : bh_bit q i = 1 := (bh_bit01 q i).resolve_left hb
        show w + (bh_bit q i + bh_ct q d (i + 1)) = _
        omega
      have e2 : bh_ap q se (8 * t) (d + 1) i la = bh_ap q se (8 * t) d (i + 1) (upd la i (se (8 * t + i))) := by
        show bh_ap q se (8 * t) d (i + 1) (if bh_bit q i = 0 then la else upd la i (se (8 * t + i))) = _
        rw [if_neg hb]
      rw [e1, e2] at hp
      exact br_f (bh_8f hi8) ⟨bh_in4 ht, br_t (by rw [bh_cl (by omega), hw]; exact (bh_wY q hq i hi8).mpr hb) ⟨bh_inY ht hi8, bh_in8 hi8, nm_r (e' := upd la i (se (8 * t + i))) (by rw [bh_cY ht hi8, bh_cl (by omega)]) (nm_r (nI_1 w) (nm_r (nI_1 i) (ih (i + 1) (w + 1) _ (by omega) hp)))⟩⟩
theorem bh_Yap {t q w c : Nat} (ht : t < 4) (hq : q < 256) (hw : wr t = nI q) (hp : post (fs, ff, nI (c + 1), fg, nI (w + bh_ct q 8 0), sa, fl, bh_ap q se (8 * t) 8 0 la, bu, se, wr, bh_or (wr t) 4 0 ov)) : wpY_apply post (fs, ff, nI c, fg, nI w, sa, fl, la, bu, se, wr, ov) (nI t) :=
  nm_r (nI_1 c) ⟨9, bh_YapL ht hq hw 8 0 w la rfl hp⟩
theorem bh_YcrL : ∀ (d i : Nat) (la : Nat → Int32), i + d = 8 → post (fs, ff, fs, 0, 0, sa, fl, bh_cp sa 0 d i la, bu, se, wr, ov) → wY_crash_22 post fs ff fc fg fw (d + 1) (nI i) sa fl la bu se wr ov := by
  intro d
  induction d with
  | zero => intro i la hi hp; exact br_t (bh_8t hi) hp
  | succ d ih =>
    intro i la hi hp
    exact br_f (bh_8f (by omega)) ⟨bh_in8 (by omega), bh_in8 (by omega), nm_r (e' := upd la (0 + i) (sa i)) (by rw [bh_cl (by omega), Nat.zero_add]) (nm_r (nI_1 i) (ih (i + 1) _ (by omega) hp))⟩
theorem bh_YczL : ∀ (d i : Nat) (bu : Nat → Int32), i + d = 4 → post (fs, ff, fs, 0, 0, sa, fl, bh_cp sa 0 8 0 la, bh_z d i bu, se, wr, ov) → wY_crash_2 post fs ff fc fg fw (d + 1) (nI i) sa fl la bu se wr ov := by
  intro d
  induction d with
  | zero => intro i bu hi hp; exact br_t (bh_4t hi) ⟨9, bh_YcrL 8 0 la rfl hp⟩
  | succ d ih =>
    intro i bu hi hp
    exact br_f (bh_4f (by omega)) ⟨bh_in4 (by omega), nm_r (e' := upd bu i 0) (by rw [bh_cl (by omega), bh_nb0]) (nm_r (nI_1 i) (ih (i + 1) _ (by omega) hp))⟩
theorem bh_Ycr (hp : post (fs, ff, fs, 0, 0, sa, fl, bh_cp sa 0 8 0 la, bh_z 4 0 bu, se, wr, ov)) : wpY_crash post (fs, ff, fc, fg, fw, sa, fl, la, bu, se, wr, ov) :=
  ⟨5, bh_YczL 4 0 bu rfl hp⟩
end
section
variable {post : Int32 → SY → Prop} {fs ff fc fg fw : Int32} {sa fl la bu se wr ov : Nat → Int32}
theorem bh_YslL : ∀ (d i : Nat) (fl : Nat → Int32), i + d = 8 → post fg (fs, ff, fc, fg, fw, sa, bh_cp la 0 d i fl, la, bu, se, wr, ov) → wY_seal_48 post fs ff fc fg fw (d + 1) (nI i) sa fl la bu se wr ov := by
  intro d
  induction d with
  | zero => intro i fl hi hp; exact br_t (bh_8t hi) hp
  | succ d ih =>
    intro i fl hi hp
    exact br_f (bh_8f (by omega)) ⟨bh_in8 (by omega), bh_in8 (by omega), nm_r (e' := upd fl (0 + i) (la i)) (by rw [bh_cl (by omega), Nat.zero_add]) (nm_r (nI_1 i) (ih (i + 1) _ (by omega) hp))⟩
theorem bh_YflL {x : Int32} : ∀ (d i : Nat) (sa : Nat → Int32), i + d = 8 → wY_flush_71 post x fs ff fc fg fw (bh_cp fl 0 d i sa) fl la bu se wr ov → wY_flush_47 post x fs ff fc fg fw (d + 1) (nI i) sa fl la bu se wr ov := by
  intro d
  induction d with
  | zero => intro i sa hi hp; exact br_t (bh_8t hi) hp
  | succ d ih =>
    intro i sa hi hp
    exact br_f (bh_8f (by omega)) ⟨bh_in8 (by omega), bh_in8 (by omega), nm_r (e' := upd sa (0 + i) (fl i)) (by rw [bh_cl (by omega), Nat.zero_add]) (nm_r (nI_1 i) (ih (i + 1) _ (by omega) hp))⟩
theorem bh_YstL {t : Nat} (ht : t < 4) : ∀ (d i : Nat) (se : Nat → Int32), i + d = 8 → post (nI t) (fs, ff, fc, fg, fw, sa, fl, la, bu, bh_cp la (8 * t) d i se, wr, ov) → wY_begin_53 post (nI t) fs ff fc fg fw (d + 1) (nI i) sa fl la bu se wr ov := by
  intro d
  induction d with
  | zero => intro i se hi hp; exact br_t (bh_8t hi) hp
  | succ d ih =>
    intro i se hi hp
    exact br_f (bh_8f (by omega)) ⟨bh_in8 (by omega), bh_inY ht (by omega), nm_r (e' := upd se (8 * t + i) (la i)) (by rw [bh_cY ht (by omega), bh_cl (by omega)]) (nm_r (nI_1 i) (ih (i + 1) _ (by omega) hp))⟩
theorem bh_n4 {t : Nat} (ht : t < 4) : ¬ nI t = 4 := by
  intro e
  rw [show (4 : Int32) = nI 4 from rfl, nI_eq (by omega) (by omega)] at e
  omega
theorem bh_Yst {t : Nat} (ht : t < 4) (hp : post (nI t) (fs, ff, fc, fg, fw, sa, fl, la, upd bu t 1, bh_cp la (8 * t) 8 0 se, upd wr t 0, upd ov t 0)) : wY_begin_22 post (nI t) fs ff fc fg fw sa fl la bu se wr ov :=
  br_f (bh_n4 ht) ⟨bh_in4 ht, nm_r (e' := upd bu t 1) (by rw [bh_cl (by omega), bh_nb1]) ⟨bh_in4 ht, nm_r (e' := upd wr t 0) (by rw [bh_cl (by omega)]) ⟨bh_in4 ht, nm_r (e' := upd ov t 0) (by rw [bh_cl (by omega)]) ⟨9, bh_YstL ht 8 0 se rfl hp⟩⟩⟩⟩
theorem bh_YbeL {m : Nat} (hu : ∀ j, j < 4 → bu j = nI (bh_bit m j)) : ∀ d i : Nat, i + d = 4 → (bh_fr m d i = 4 → post (-2) (fs, ff, fc, fg, fw, sa, fl, la, bu, se, wr, ov)) → (∀ t : Nat, t < 4 → bh_fr m d i = t → post (nI t) (fs, ff, fc, fg, fw, sa, fl, la, upd bu t 1, bh_cp la (8 * t) 8 0 se, upd wr t 0, upd ov t 0)) → wY_begin_2 post fs ff fc fg fw sa fl la bu se wr ov (d + 1) (nI i) := by
  intro d
  induction d with
  | zero =>
    intro i hi h1 h2
    have e : i = 4 := by omega
    subst e
    exact br_t (bh_4t rfl) (br_t rfl (h1 rfl))
  | succ d ih =>
    intro i hi h1 h2
    have hi4 : i < 4 := by omega
    by_cases hb : bh_bit m i = 0
    · exact br_f (bh_4f hi4) ⟨bh_in4 hi4, br_t (by rw [bh_cl (by omega), hu i hi4]; exact bh_b0.mpr hb) (bh_Yst hi4 (h2 i hi4 (if_pos hb)))⟩
    · have e : bh_fr m (d + 1) i = bh_fr m d (i + 1) := if_neg hb
      rw [e] at h1 h2
      exact br_f (bh_4f hi4) ⟨bh_in4 hi4, br_f (by rw [bh_cl (by omega), hu i hi4]; exact fun e => hb (bh_b0.mp e)) (nm_r (nI_1 i) (ih (i + 1) (by omega) h1 h2))⟩
end
section
variable {post : Int32 → SX → Prop} {fc ff fs fw fg : Int32} {la fl sa se wr ov : Nat → Int32}
theorem bh_XbeL {m : Nat} (hm : m < 16) : ∀ d i : Nat, i + d = 4 → (bh_fr m d i = 4 → post (-2) (fc, ff, fs, fw, fg, nI m, la, fl, sa, se, wr, ov)) → (∀ t : Nat, t < 4 → bh_fr m d i = t → post (nI t) (fc, ff, fs, fw, fg, nI (m ||| 2 ^ t), la, fl, sa, bh_cp la (8 * t) 8 0 se, upd wr t 0, upd ov t 0)) → wX_begin_2 post fc ff fs fw fg (nI m) la fl sa se wr ov (d + 1) (nI i) := by
  intro d
  induction d with
  | zero =>
    intro i hi h1 h2
    have e : i = 4 := by omega
    subst e
    exact br_t (bh_4t rfl) (h1 rfl)
  | succ d ih =>
    intro i hi h1 h2
    have hi4 : i < 4 := by omega
    by_cases hb : bh_bit m i = 0
    · refine br_f (bh_4f hi4) (bh_XoF hm (Or.inr (Or.inr ⟨i, hi4, rfl, hb⟩)) ?_)
      refine br_t rfl (bh_Xst hi4 hm ?_)
      exact h2 i hi4 (if_pos hb)
    · have e : bh_fr m (d + 1) i = bh_fr m d (i + 1) := if_neg hb
      rw [e] at h1 h2
      refine br_f (bh_4f hi4) (bh_XoT hm hi4 hb ?_)
      exact br_f (by decide) (nm_r (nI_1 i) (ih (i + 1) (by omega) h1 h2))
end
theorem bh_frle (m : Nat) : ∀ d i : Nat, i + d = 4 → bh_fr m d i ≤ 4 := by
  intro d
  induction d with
  | zero => intro i hi; show i ≤ 4; omega
  | succ d ih =>
    intro i hi
    show (if bh_bit m i = 0 then i else bh_fr m d (i + 1)) ≤ 4
    by_cases hb : bh_bit m i = 0
    · rw [if_pos hb]; omega
    · rw [if_neg hb]; exact ih (i + 1) (by omega)
section
variable {post : Int32 → Prop} {fs ff fc fg fw : Int32} {sa fl la bu se wr ov : Nat → Int32}
theorem bh_YopL {m : Nat} (hm : m < 16) (hu : ∀ j, j < 4 → bu j = nI (bh_bit m j)) (hp : post (nI m)) : ∀ d i : Nat, i + d = 4 → wY_open_4 post fs ff fc fg fw sa fl la bu se wr ov (d + 1) (nI (m % 2 ^ i)) (nI i) := by
  intro d
  induction d with
  | zero =>
    intro i hi
    have e : i = 4 := by omega
    subst e
    rw [Nat.mod_eq_of_lt (show m < 2 ^ 4 from hm)]
    exact br_t (bh_4t rfl) hp
  | succ d ih =>
    intro i hi
    have hi4 : i < 4 := by omega
    by_cases hb : bh_bit m i = 0
    · exact br_f (bh_4f hi4) ⟨bh_in4 hi4, br_t (by rw [bh_cl (by omega), hu i hi4]; exact bh_b0.mpr hb) (nm_r (bh_oG0 m hm i hi4 hb) (nm_r (nI_1 i) (ih (i + 1) (by omega))))⟩
    · exact br_f (bh_4f hi4) ⟨bh_in4 hi4, br_f (by rw [bh_cl (by omega), hu i hi4]; exact fun e => hb (bh_b0.mp e)) (nm_r (bh_oG1 m hm i hi4 hb) (nm_r (nI_1 i) (ih (i + 1) (by omega))))⟩
theorem bh_Yop {m : Nat} (hm : m < 16) (hu : ∀ j, j < 4 → bu j = nI (bh_bit m j)) (hp : post (nI m)) : wpY_open post (fs, ff, fc, fg, fw, sa, fl, la, bu, se, wr, ov) := by
  refine ⟨5, ?_⟩
  have h := bh_YopL (post := post) (fs := fs) (ff := ff) (fc := fc) (fg := fg) (fw := fw) (sa := sa) (fl := fl) (la := la) (se := se) (wr := wr) (ov := ov) hm hu hp 4 0 rfl
  rw [show m % 2 ^ 0 = 0 from Nat.mod_one m] at h
  exact h
end
end
section
/-! the relation's numbers: c commits, f up to the flushing group, s durable, w waiting writes, g steps to go, m the open mask; wr the wrote masks, bu the reference's busy slots -/
def bh_R (k c f s w g m : Nat) (wr bu : Nat → Int32) : Prop :=
  c ≤ k ∧ f ≤ k ∧ s ≤ k ∧ w ≤ 8 * k ∧ g ≤ 8 * k + 1 ∧ m < 16 ∧ (∀ j, j < 4 → bu j = nI (bh_bit m j)) ∧ (∀ j, j < 4 → ∃ q, q < 256 ∧ wr j = nI q) ∧ (g = 0 → s ≤ c ∧ (w = 0 ↔ c = s)) ∧ (g ≠ 0 → f ≤ c ∧ (w = 0 ↔ c = f))
section
variable {k c f s w g m : Nat} {wr bu : Nat → Int32}
theorem bh_Rm (h : bh_R k c f s w g m wr bu) : m < 16 := by
  obtain ⟨_, _, _, _, _, hm, _⟩ := h
  exact hm
theorem bh_Ru (h : bh_R k c f s w g m wr bu) : ∀ j, j < 4 → bu j = nI (bh_bit m j) := by
  obtain ⟨_, _, _, _, _, _, hu, _⟩ := h
  exact hu
theorem bh_Rq (h : bh_R k c f s w g m wr bu) : ∀ j, j < 4 → ∃ q, q < 256 ∧ wr j = nI q := by
  obtain ⟨_, _, _, _, _, _, _, hq, _⟩ := h
  exact hq
theorem bh_Rup (h : bh_R k c f s w g m wr bu) : bh_R (k + 4) c f s w g m wr bu := by
  obtain ⟨h1, h2, h3, h4, h5, hm, hu, hq, h6, h7⟩ := h
  exact ⟨by omega, by omega, by omega, by omega, by omega, hm, hu, hq, h6, h7⟩
theorem bh_q0 (hq : ∀ j, j < 4 → ∃ q, q < 256 ∧ wr j = nI q) (t : Nat) (x : Int32) (hx : ∃ q, q < 256 ∧ x = nI q) : ∀ j, j < 4 → ∃ q, q < 256 ∧ upd wr t x j = nI q := by
  intro j hj
  by_cases e : j = t
  · subst e
    rw [bh_us]
    exact hx
  · rw [bh_un e]
    exact hq j hj
theorem bh_Rbe {t : Nat} (ht : t < 4) (h : bh_R k c f s w g m wr bu) : bh_R (k + 4) c f s w g (m ||| 2 ^ t) (upd wr t 0) (upd bu t 1) := by
  obtain ⟨h1, h2, h3, h4, h5, hm, hu, hq, h6, h7⟩ := h
  refine ⟨by omega, by omega, by omega, by omega, by omega, bh_oS16 m hm t ht, ?_, bh_q0 hq t 0 ⟨0, by decide, rfl⟩, h6, h7⟩
  intro j hj
  rw [bh_oSb m hm t ht j hj]
  by_cases e : j = t
  · subst e
    rw [bh_us, if_pos rfl]
    rfl
  · rw [bh_un e, if_neg e]
    exact hu j hj
theorem bh_uC {t : Nat} (ht : t < 4) (hm : m < 16) (hu : ∀ j, j < 4 → bu j = nI (bh_bit m j)) : ∀ j, j < 4 → upd bu t 0 j = nI (bh_bit (bh_clr m t) j) := by
  intro j hj
  rw [bh_oCb m hm t ht j hj]
  by_cases e : j = t
  · subst e
    rw [bh_us, if_pos rfl]
    rfl
  · rw [bh_un e, if_neg e]
    exact hu j hj
theorem bh_Rcl {t : Nat} (ht : t < 4) (h : bh_R k c f s w g m wr bu) : bh_R (k + 4) c f s w g (bh_clr m t) wr (upd bu t 0) := by
  obtain ⟨h1, h2, h3, h4, h5, hm, hu, hq, h6, h7⟩ := h
  exact ⟨by omega, by omega, by omega, by omega, by omega, bh_oC16 m hm t ht, bh_uC ht hm hu, hq, h6, h7⟩
theorem bh_Rwr {t i : Nat} (ht : t < 4) (hi : i < 8) (h : bh_R k c f s w g m wr bu) : bh_R (k + 4) c f s w g m (upd wr t (wr t ||| ((1 : Int32) <<< (nI i &&& 31)))) bu := by
  obtain ⟨h1, h2, h3, h4, h5, hm, hu, hq, h6, h7⟩ := h
  refine ⟨by omega, by omega, by omega, by omega, by omega, hm, hu, bh_q0 hq t _ ?_, h6, h7⟩
  obtain ⟨q, hq2, e⟩ := hq t ht
  exact ⟨q ||| 2 ^ i, bh_wS256 q hq2 i hi, by rw [e]; exact bh_wS q hq2 i hi⟩
theorem bh_Rco {t q : Nat} (ht : t < 4) (hq2 : q < 256) (hq0 : q ≠ 0) (h : bh_R k c f s w g m wr bu) : bh_R (k + 4) (c + 1) f s (w + bh_ct q 8 0) g (bh_clr m t) wr (upd bu t 0) := by
  obtain ⟨h1, h2, h3, h4, h5, hm, hu, hq, h6, h7⟩ := h
  have hle := bh_ctle q 8 0
  have hne : bh_ct q 8 0 ≠ 0 := fun e => hq0 ((bh_ct0 q hq2).mp e)
  refine ⟨by omega, by omega, by omega, by omega, by omega, bh_oC16 m hm t ht, bh_uC ht hm hu, hq, ?_, ?_⟩
  · intro e
    obtain ⟨a, _⟩ := h6 e
    exact ⟨by omega, by omega⟩
  · intro e
    obtain ⟨a, _⟩ := h7 e
    exact ⟨by omega, by omega⟩
theorem bh_Rse (h : bh_R k c f s w g m wr bu) : bh_R (k + 4) c c s 0 (w + 1) m wr bu := by
  obtain ⟨h1, h2, h3, h4, h5, hm, hu, hq, h6, h7⟩ := h
  exact ⟨by omega, by omega, by omega, by omega, by omega, hm, hu, hq, fun e => by omega, fun _ => ⟨by omega, by omega⟩⟩
theorem bh_Rf1 {n : Nat} (hn : n < g) (h : bh_R k c f s w g m wr bu) : bh_R (k + 4) c f s w (g - n) m wr bu := by
  obtain ⟨h1, h2, h3, h4, h5, hm, hu, hq, h6, h7⟩ := h
  exact ⟨by omega, by omega, by omega, by omega, by omega, hm, hu, hq, fun e => by omega, fun _ => h7 (by omega)⟩
theorem bh_Rf2 (hg : g ≠ 0) (h : bh_R k c f s w g m wr bu) : bh_R (k + 4) c f f w 0 m wr bu := by
  obtain ⟨h1, h2, h3, h4, h5, hm, hu, hq, h6, h7⟩ := h
  exact ⟨by omega, by omega, by omega, by omega, by omega, hm, hu, hq, fun _ => h7 hg, fun e => absurd rfl e⟩
theorem bh_Rcr (h : bh_R k c f s w g m wr bu) : bh_R (k + 4) s f s 0 0 0 wr (bh_z 4 0 bu) := by
  obtain ⟨h1, h2, h3, h4, h5, hm, hu, hq, h6, h7⟩ := h
  refine ⟨by omega, by omega, by omega, by omega, by omega, by decide, ?_, hq, fun _ => ⟨by omega, by omega⟩, fun e => absurd rfl e⟩
  intro j hj
  rw [bh_z4 bu j hj]
  have e : bh_bit 0 j = 0 := by
    unfold bh_bit
    rw [Nat.zero_div]
  rw [e]
  rfl
end
/-- the relation: what both keep alike is the same; the open mask against the busy slots; the counts -/
def i_Rel (k : Nat) (u : SX) (v : SY) : Prop := ∃ (c f s w g m : Nat) (la fl sa se wr ov bu : Nat → Int32), u = (nI c, nI f, nI s, nI w, nI g, nI m, la, fl, sa, se, wr, ov) ∧ v = (nI s, nI f, nI c, nI g, nI w, sa, fl, la, bu, se, wr, ov) ∧ bh_R k c f s w g m wr bu
theorem bh_mk {k : Nat} (c f s w g m : Nat) (la fl sa se wr ov bu : Nat → Int32) (h : bh_R k c f s w g m wr bu) : i_Rel k (nI c, nI f, nI s, nI w, nI g, nI m, la, fl, sa, se, wr, ov) (nI s, nI f, nI c, nI g, nI w, sa, fl, la, bu, se, wr, ov) :=
  ⟨c, f, s, w, g, m, la, fl, sa, se, wr, ov, bu, rfl, rfl, h⟩
end
section
/-! what is owed -/
theorem i_up {k : Nat} {u : SX} {v : SY} (h : i_Rel k u v) : i_Rel (k + 4) u v := by
  obtain ⟨c, f, s, w, g, m, la, fl, sa, se, wr, ov, bu, rfl, rfl, R⟩ := h
  exact bh_mk _ _ _ _ _ _ _ _ _ _ _ _ _ (bh_Rup R)
theorem i_vc0 : wpX_init (fun u => wpY_init (fun v => i_Rel 0 u v)) :=
  bh_mk 0 0 0 0 0 0 (fun _ => 0) (fun _ => 0) (fun _ => 0) (fun _ => 0) (fun _ => 0) (fun _ => 0) (fun _ => 0) ⟨by omega, by omega, by omega, by omega, by omega, by omega, (by decide +kernel), fun _ _ => ⟨0, by decide, rfl⟩, fun _ => ⟨by omega, by omega⟩, fun e => absurd rfl e⟩
theorem i_vc_begin {k : Nat} {u : SX} {v : SY} (I : i_Rel k u v) (hk : k + 4 ≤ 2048) : wpX_begin (fun r u' => wpY_begin (fun r' v' => r' = r ∧ i_Rel (k + 4) u' v') v) u := by
  obtain ⟨c, f, s, w, g, m, la, fl, sa, se, wr, ov, bu, rfl, rfl, R⟩ := I
  refine ⟨5, bh_XbeL (bh_Rm R) 4 0 rfl (fun e => ⟨5, bh_YbeL (bh_Ru R) 4 0 rfl (fun _ => ⟨rfl, bh_mk _ _ _ _ _ _ _ _ _ _ _ _ _ (bh_Rup R)⟩) (fun t ht e2 => ?_)⟩) (fun t ht e => ⟨5, bh_YbeL (bh_Ru R) 4 0 rfl (fun e2 => ?_) (fun t2 ht2 e2 => ?_)⟩)⟩
  · omega
  · omega
  · have e3 : t2 = t := by omega
    subst e3
    exact ⟨rfl, bh_mk _ _ _ _ _ _ _ _ _ _ _ _ _ (bh_Rbe ht R)⟩
theorem i_vc_write {k : Nat} {u : SX} {v : SY} (I : i_Rel k u v) (hk : k + 4 ≤ 2048) (v1 : Int32) (v2 : Int32) (v3 : Int32) : wpX_write (fun r u' => wpY_write (fun r' v' => r' = r ∧ i_Rel (k + 4) u' v') v v1 v2 v3) u v1 v2 v3 := by
  obtain ⟨c, f, s, w, g, m, la, fl, sa, se, wr, ov, bu, rfl, rfl, R⟩ := I
  have hm := bh_Rm R
  have hu := bh_Ru R
  unfold wpX_write wpY_write
  dsimp only
  rcases bh_op m v1 with ⟨j, hj, rfl, hb⟩ | hn
  · refine bh_XoT hm hj hb (br_f (by decide) ?_)
    rcases bh_ky v2 with ⟨i, hi, rfl⟩ | hn
    · refine bh_XkT hi (br_f (by decide) ⟨bh_inX hj hi, nm_r (e' := upd se (8 * j + i) v3) (by rw [bh_cX hj hi]) ⟨bh_in4 hj, bh_in4 hj, nm_r (e' := upd wr j (wr j ||| ((1 : Int32) <<< (nI i &&& 31)))) (by rw [bh_cl (by omega)]) ?_⟩⟩)
      refine bh_YoT hu hj hb (br_f (by decide) ?_)
      refine bh_YkT hi (br_f (by decide) ⟨bh_inY hj hi, nm_r (e' := upd se (8 * j + i) v3) (by rw [bh_cY hj hi]) ⟨bh_in4 hj, bh_in4 hj, nm_r (e' := upd wr j (wr j ||| ((1 : Int32) <<< (nI i &&& 31)))) (by rw [bh_cl (by omega)]) ?_⟩⟩)
      exact ⟨rfl, bh_mk _ _ _ _ _ _ _ _ _ _ _ _ _ (bh_Rwr hj hi R)⟩
    · refine bh_XkF hn (br_t rfl ?_)
      refine bh_YoT hu hj hb (br_f (by decide) ?_)
      exact bh_YkF hn (br_t rfl ⟨rfl, bh_mk _ _ _ _ _ _ _ _ _ _ _ _ _ (bh_Rup R)⟩)
  · refine bh_XoF hm hn (br_t rfl ?_)
    exact bh_YoF hu hn (br_t rfl ⟨rfl, bh_mk _ _ _ _ _ _ _ _ _ _ _ _ _ (bh_Rup R)⟩)
theorem i_vc_read {k : Nat} {u : SX} {v : SY} (I : i_Rel k u v) (hk : k + 4 ≤ 2048) (v1 : Int32) (v2 : Int32) : wpX_read (fun r => wpY_read (fun r' => r' = r ∧ i_Rel (k + 4) u v) v v1 v2) u v1 v2 := by
  have J := i_up I
  obtain ⟨c, f, s, w, g, m, la, fl, sa, se, wr, ov, bu, rfl, rfl, R⟩ := I
  have hm := bh_Rm R
  have hu := bh_Ru R
  unfold wpX_read wpY_read
  dsimp only
  rcases bh_op m v1 with ⟨j, hj, rfl, hb⟩ | hn
  · refine bh_XoT hm hj hb (br_f (by decide) ?_)
    rcases bh_ky v2 with ⟨i, hi, rfl⟩ | hn
    · refine bh_XkT hi (br_f (by decide) ⟨bh_inX hj hi, ?_⟩)
      refine bh_YoT hu hj hb (br_f (by decide) ?_)
      exact bh_YkT hi (br_f (by decide) ⟨bh_inY hj hi, by rw [bh_cX hj hi, bh_cY hj hi], J⟩)
    · refine bh_XkF hn (br_t rfl ?_)
      refine bh_YoT hu hj hb (br_f (by decide) ?_)
      exact bh_YkF hn (br_t rfl ⟨rfl, J⟩)
  · refine bh_XoF hm hn (br_t rfl ?_)
    exact bh_YoF hu hn (br_t rfl ⟨rfl, J⟩)
theorem i_vc_commit {k : Nat} {u : SX} {v : SY} (I : i_Rel k u v) (hk : k + 4 ≤ 2048) (v1 : Int32) : wpX_commit (fun r u' => wpY_commit (fun r' v' => r' = r ∧ i_Rel (k + 4) u' v') v v1) u v1 := by
  obtain ⟨c, f, s, w, g, m, la, fl, sa, se, wr, ov, bu, rfl, rfl, R⟩ := I
  have hm := bh_Rm R
  have hu := bh_Ru R
  unfold wpX_commit wpY_commit
  dsimp only
  rcases bh_op m v1 with ⟨j, hj, rfl, hb⟩ | hn
  · have hcj : (nI j).toNatClampNeg = j := bh_cl (by omega)
    have ebu : upd bu (nI j).toNatClampNeg (vp_nar .boolean 0) = upd bu j 0 := by rw [hcj, bh_nb0]
    refine bh_XoT hm hj hb (br_f (by decide) (bh_Xcl hj hm ?_))
    obtain ⟨q, hq, eq⟩ := bh_Rq R j hj
    by_cases hc : wr j &&& ov j = 0
    · have hc' : wr (nI j).toNatClampNeg &&& ov (nI j).toNatClampNeg = 0 := by rw [hcj]; exact hc
      by_cases hz : q = 0
      · have hz' : wr (nI j).toNatClampNeg = 0 := by rw [hcj, eq, hz]; rfl
        refine ⟨bh_in4 hj, bh_in4 hj, br_t hc' ⟨bh_in4 hj, br_t hz' ?_⟩⟩
        refine bh_YoT hu hj hb (br_f (by decide) ⟨bh_in4 hj, nm_r ebu ⟨bh_in4 hj, bh_in4 hj, br_t hc' ⟨bh_in4 hj, br_t hz' ?_⟩⟩⟩)
        exact ⟨rfl, bh_mk _ _ _ _ _ _ _ _ _ _ _ _ _ (bh_Rcl hj R)⟩
      · have hz' : ¬ wr (nI j).toNatClampNeg = 0 := by
          rw [hcj, eq]
          exact nI_ne0 (by omega) (by omega)
        refine ⟨bh_in4 hj, bh_in4 hj, br_t hc' ⟨bh_in4 hj, br_f hz' (bh_Xap hj hq eq ?_)⟩⟩
        refine ⟨bh_in4 hj, bh_Xor ?_⟩
        refine nm_r (nI_1 c) ?_
        refine bh_YoT hu hj hb (br_f (by decide) ⟨bh_in4 hj, nm_r ebu ⟨bh_in4 hj, bh_in4 hj, br_t hc' ⟨bh_in4 hj, br_f hz' (bh_Yap hj hq eq ?_)⟩⟩⟩)
        rw [hcj]
        exact ⟨rfl, bh_mk _ _ _ _ _ _ _ _ _ _ _ _ _ (bh_Rco hj hq hz R)⟩
    · have hc' : ¬ wr (nI j).toNatClampNeg &&& ov (nI j).toNatClampNeg = 0 := by rw [hcj]; exact hc
      refine ⟨bh_in4 hj, bh_in4 hj, br_f hc' ?_⟩
      refine bh_YoT hu hj hb (br_f (by decide) ⟨bh_in4 hj, nm_r ebu ⟨bh_in4 hj, bh_in4 hj, br_f hc' ?_⟩⟩)
      exact ⟨rfl, bh_mk _ _ _ _ _ _ _ _ _ _ _ _ _ (bh_Rcl hj R)⟩
  · refine bh_XoF hm hn (br_t rfl ?_)
    exact bh_YoF hu hn (br_t rfl ⟨rfl, bh_mk _ _ _ _ _ _ _ _ _ _ _ _ _ (bh_Rup R)⟩)
theorem i_vc_abort {k : Nat} {u : SX} {v : SY} (I : i_Rel k u v) (hk : k + 4 ≤ 2048) (v1 : Int32) : wpX_abort (fun r u' => wpY_abort (fun r' v' => r' = r ∧ i_Rel (k + 4) u' v') v v1) u v1 := by
  obtain ⟨c, f, s, w, g, m, la, fl, sa, se, wr, ov, bu, rfl, rfl, R⟩ := I
  have hm := bh_Rm R
  have hu := bh_Ru R
  unfold wpX_abort wpY_abort
  dsimp only
  rcases bh_op m v1 with ⟨j, hj, rfl, hb⟩ | hn
  · have ebu : upd bu (nI j).toNatClampNeg (vp_nar .boolean 0) = upd bu j 0 := by rw [bh_cl (by omega), bh_nb0]
    refine bh_XoT hm hj hb (br_f (by decide) (bh_Xcl hj hm ?_))
    refine bh_YoT hu hj hb (br_f (by decide) ⟨bh_in4 hj, nm_r ebu ?_⟩)
    exact ⟨rfl, bh_mk _ _ _ _ _ _ _ _ _ _ _ _ _ (bh_Rcl hj R)⟩
  · refine bh_XoF hm hn (br_t rfl ?_)
    exact bh_YoF hu hn (br_t rfl ⟨rfl, bh_mk _ _ _ _ _ _ _ _ _ _ _ _ _ (bh_Rup R)⟩)
theorem i_vc_seal {k : Nat} {u : SX} {v : SY} (I : i_Rel k u v) (hk : k + 4 ≤ 2048) : wpX_seal (fun r u' => wpY_seal (fun r' v' => r' = r ∧ i_Rel (k + 4) u' v') v) u := by
  obtain ⟨c, f, s, w, g, m, la, fl, sa, se, wr, ov, bu, rfl, rfl, R⟩ := I
  obtain ⟨h1, h2, h3, h4, h5, hm, hu, hq, h6, h7⟩ := id R
  by_cases hg : g = 0
  · obtain ⟨a, b⟩ := h6 hg
    subst hg
    by_cases hw : w = 0
    · have e : nI c = nI s := by rw [b.mp hw]
      subst hw
      exact br_t rfl (br_t rfl (br_t (by decide) (br_t e ⟨rfl, bh_mk _ _ _ _ _ _ _ _ _ _ _ _ _ (bh_Rup R)⟩)))
    · have e : ¬ nI c = nI s := by
        rw [nI_eq (by omega) (by omega)]
        exact fun e => hw (b.mpr e)
      refine br_t rfl (br_f (nI_ne0 (by omega) (by omega)) (bh_XcA ?_))
      refine nm_r (nI_1 w) ?_
      refine br_t (by decide) (br_f e (nm_r (nI_1 w) ⟨9, bh_YslL 8 0 fl rfl ?_⟩))
      exact ⟨rfl, bh_mk c c s 0 (w + 1) m _ _ _ _ _ _ _ (bh_Rse R)⟩
  · refine br_f (nI_ne0 (by omega) (by omega)) ?_
    exact br_f (nI_nle (by omega) (by omega)) ⟨rfl, bh_mk _ _ _ _ _ _ _ _ _ _ _ _ _ (bh_Rup R)⟩
theorem i_vc_flush {k : Nat} {u : SX} {v : SY} (I : i_Rel k u v) (hk : k + 4 ≤ 2048) (v1 : Int32) : wpX_flush (fun r u' => wpY_flush (fun r' v' => r' = r ∧ i_Rel (k + 4) u' v') v v1) u v1 := by
  obtain ⟨c, f, s, w, g, m, la, fl, sa, se, wr, ov, bu, rfl, rfl, R⟩ := I
  obtain ⟨h1, h2, h3, h4, h5, hm, hu, hq, h6, h7⟩ := id R
  have J := bh_mk c f s w g m la fl sa se wr ov bu (bh_Rup R)
  have hgs : nI g - 0 = nI g := bh_sub (a := g) (b := 0) (Nat.zero_le g)
  by_cases hn : v1 < 0
  · refine br_t (Int32.le_of_lt hn) ?_
    exact br_f (Int32.not_le.mpr hn) (br_t (by decide) (nm_r hgs ⟨rfl, J⟩))
  · obtain ⟨n, hn31, rfl⟩ := nI_of hn
    have h0 : (0 : Int32) ≤ nI n := nI_pos' hn31
    by_cases hn0 : n = 0
    · subst hn0
      refine br_t (by decide) ?_
      exact br_t h0 (br_t (nI_le (Nat.zero_le g) (by omega)) (br_t (by decide) (nm_r hgs ⟨rfl, J⟩)))
    · have hnz : ¬ nI n ≤ 0 := nI_nle (by omega) hn31
      by_cases hg : g = 0
      · subst hg
        refine br_f hnz (br_t rfl ?_)
        exact br_t h0 (br_f (nI_ge (by omega) hn31) (br_t (by decide) (nm_r hgs ⟨rfl, J⟩)))
      · have hgz : ¬ nI g = 0 := nI_ne0 (by omega) (by omega)
        have hgl : ¬ nI g ≤ 0 := nI_nle (by omega) (by omega)
        by_cases hgn : g ≤ n
        · refine br_f hnz (br_f hgz (br_t (nI_le hgn hn31) (bh_XcB ?_)))
          have hz : nI g - nI g = nI 0 := by rw [bh_sub (Nat.le_refl g), Nat.sub_self]
          have hY : ∀ z : Int32, z = nI g → wY_flush_24 (fun r' v' => r' = nI g ∧ i_Rel (k + 4) (nI c, nI f, nI f, nI w, 0, nI m, la, fl, bh_cp fl 0 8 0 sa, se, wr, ov) v') z (nI s) (nI f) (nI c) (nI g) (nI w) sa fl la bu se wr ov := by
            intro z hz'
            subst hz'
            exact br_f hgl (br_t rfl ⟨9, bh_YflL 8 0 sa rfl (nm_r hz ⟨rfl, bh_mk c f f w 0 m _ _ _ _ _ _ _ (bh_Rf2 hg R)⟩)⟩)
          by_cases hng : n ≤ g
          · have e : n = g := by omega
            exact br_t h0 (br_t (nI_le hng (by omega)) (hY _ (by rw [e])))
          · exact br_t h0 (br_f (nI_ge (by omega) hn31) (hY _ rfl))
        · refine br_f hnz (br_f hgz (br_f (nI_ge (by omega) (by omega)) (nm_r (bh_sub (by omega)) ?_)))
          have hne : ¬ nI n = nI g := by
            rw [nI_eq hn31 (by omega)]
            omega
          exact br_t h0 (br_t (nI_le (by omega) (by omega)) (br_f hnz (br_f hne (nm_r (bh_sub (by omega)) ⟨rfl, bh_mk c f s w (g - n) m _ _ _ _ _ _ _ (bh_Rf1 (by omega) R)⟩))))
theorem i_vc_stepsLeft {k : Nat} {u : SX} {v : SY} (I : i_Rel k u v) (hk : k + 4 ≤ 2048) : wpX_stepsLeft (fun r => wpY_stepsLeft (fun r' => r' = r ∧ i_Rel (k + 4) u v) v) u := by
  have J := i_up I
  obtain ⟨c, f, s, w, g, m, la, fl, sa, se, wr, ov, bu, rfl, rfl, R⟩ := I
  exact ⟨rfl, J⟩
theorem i_vc_crash {k : Nat} {u : SX} {v : SY} (I : i_Rel k u v) (hk : k + 4 ≤ 2048) : wpX_crash (fun u' => wpY_crash (fun v' => i_Rel (k + 4) u' v') v) u := by
  obtain ⟨c, f, s, w, g, m, la, fl, sa, se, wr, ov, bu, rfl, rfl, R⟩ := I
  unfold wpX_crash
  dsimp only
  refine bh_XcC ?_
  refine bh_Ycr ?_
  exact bh_mk s f s 0 0 0 _ _ _ _ _ _ _ (bh_Rcr R)
theorem i_vc_commits {k : Nat} {u : SX} {v : SY} (I : i_Rel k u v) (hk : k + 4 ≤ 2048) : wpX_commits (fun r => wpY_commits (fun r' => r' = r ∧ i_Rel (k + 4) u v) v) u := by
  have J := i_up I
  obtain ⟨c, f, s, w, g, m, la, fl, sa, se, wr, ov, bu, rfl, rfl, R⟩ := I
  exact ⟨rfl, J⟩
theorem i_vc_durable {k : Nat} {u : SX} {v : SY} (I : i_Rel k u v) (hk : k + 4 ≤ 2048) : wpX_durable (fun r => wpY_durable (fun r' => r' = r ∧ i_Rel (k + 4) u v) v) u := by
  have J := i_up I
  obtain ⟨c, f, s, w, g, m, la, fl, sa, se, wr, ov, bu, rfl, rfl, R⟩ := I
  exact ⟨rfl, J⟩
theorem i_vc_value {k : Nat} {u : SX} {v : SY} (I : i_Rel k u v) (hk : k + 4 ≤ 2048) (v1 : Int32) : wpX_value (fun r => wpY_value (fun r' => r' = r ∧ i_Rel (k + 4) u v) v v1) u v1 := by
  have J := i_up I
  obtain ⟨c, f, s, w, g, m, la, fl, sa, se, wr, ov, bu, rfl, rfl, R⟩ := I
  unfold wpX_value wpY_value
  dsimp only
  rcases bh_ky v1 with ⟨i, hi, rfl⟩ | hn
  · refine bh_XkT hi (br_f (by decide) ⟨bh_in8 hi, ?_⟩)
    exact bh_YkT hi (br_f (by decide) ⟨bh_in8 hi, rfl, J⟩)
  · refine bh_XkF hn (br_t rfl ?_)
    exact bh_YkF hn (br_t rfl ⟨rfl, J⟩)
theorem i_vc_safeValue {k : Nat} {u : SX} {v : SY} (I : i_Rel k u v) (hk : k + 4 ≤ 2048) (v1 : Int32) : wpX_safeValue (fun r => wpY_safeValue (fun r' => r' = r ∧ i_Rel (k + 4) u v) v v1) u v1 := by
  have J := i_up I
  obtain ⟨c, f, s, w, g, m, la, fl, sa, se, wr, ov, bu, rfl, rfl, R⟩ := I
  unfold wpX_safeValue wpY_safeValue
  dsimp only
  rcases bh_ky v1 with ⟨i, hi, rfl⟩ | hn
  · refine bh_XkT hi (br_f (by decide) ⟨bh_in8 hi, ?_⟩)
    exact bh_YkT hi (br_f (by decide) ⟨bh_in8 hi, rfl, J⟩)
  · refine bh_XkF hn (br_t rfl ?_)
    exact bh_YkF hn (br_t rfl ⟨rfl, J⟩)
theorem i_vc_conflicts {k : Nat} {u : SX} {v : SY} (I : i_Rel k u v) (hk : k + 4 ≤ 2048) (v1 : Int32) : wpX_conflicts (fun r => wpY_conflicts (fun r' => r' = r ∧ i_Rel (k + 4) u v) v v1) u v1 := by
  have J := i_up I
  obtain ⟨c, f, s, w, g, m, la, fl, sa, se, wr, ov, bu, rfl, rfl, R⟩ := I
  have hm := bh_Rm R
  have hu := bh_Ru R
  unfold wpX_conflicts wpY_conflicts
  dsimp only
  rcases bh_op m v1 with ⟨j, hj, rfl, hb⟩ | hn
  · refine bh_XoT hm hj hb (br_f (by decide) ⟨bh_in4 hj, bh_in4 hj, ?_⟩)
    exact bh_YoT hu hj hb (br_f (by decide) ⟨bh_in4 hj, bh_in4 hj, rfl, J⟩)
  · refine bh_XoF hm hn (br_t rfl ?_)
    exact bh_YoF hu hn (br_t rfl ⟨rfl, J⟩)
theorem i_vc_open {k : Nat} {u : SX} {v : SY} (I : i_Rel k u v) (hk : k + 4 ≤ 2048) : wpX_open (fun r => wpY_open (fun r' => r' = r ∧ i_Rel (k + 4) u v) v) u := by
  have J := i_up I
  obtain ⟨c, f, s, w, g, m, la, fl, sa, se, wr, ov, bu, rfl, rfl, R⟩ := I
  exact bh_Yop (bh_Rm R) (bh_Ru R) ⟨rfl, J⟩
end

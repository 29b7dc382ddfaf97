/-! the reference's loops, and begin's walk on both sides -/
section
variable {post : SY → Prop} {fs ff fc fg fw : Int32} {sa fl la bu se wr ov : Nat → Int32}
theorem bh_YorL {t : Nat} (ht : t < 4) : ∀ (d i : Nat) (ov : Nat → Int32), i + d = 4 → post (fs, ff, fc, fg, fw, sa, fl, la, bu, se, wr, bh_or (wr t) d i ov) → wY_apply_67 post (nI t) fs ff fc fg fw (d + 1) (nI i) sa fl la bu se wr ov := by
  intro d
  induction d with
  | zero => intro i ov hi hp; exact br_t (bh_4t hi) hp
  | succ d ih =>
    intro i ov hi hp
    exact br_f (bh_4f (by omega)) ⟨bh_in4 (by omega), bh_in4 ht, bh_in4 (by omega), nm_r (e' := upd ov i (ov i ||| wr t)) (by rw [bh_cl (by omega), bh_cl (by omega)]) (nm_r (nI_1 i) (ih (i + 1) _ (by omega) hp))⟩
theorem bh_YapL {t q : Nat} (ht : t < 4) (hq : q < 256) (hw : wr t = nI q) : ∀ (d i w : Nat) (la : Nat → Int32), i + d = 8 → post (fs, ff, fc, fg, nI (w + bh_ct q d i), sa, fl, bh_ap q se (8 * t) d i la, bu, se, wr, bh_or (wr t) 4 0 ov) → wY_apply_12 post (nI t) fs ff fc fg (d + 1) (nI i) (nI w) sa fl la bu se wr ov := by
  intro d
  induction d with
  | zero => intro i w la hi hp; exact br_t (bh_8t hi) ⟨5, bh_YorL ht 4 0 ov rfl hp⟩
  | succ d ih =>
    intro i w la hi hp
    have hi8 : i < 8 := by omega
    by_cases hb : bh_bit q i = 0
    · have e1 : bh_ct q (d + 1) i = bh_ct q d (i + 1) := by
        show bh_bit q i + bh_ct q d (i + 1) = _
        rw [hb, Nat.zero_add]
      have e2 : bh_ap q se (8 * t) (d + 1) i la = bh_ap q se (8 * t) d (i + 1) la := by
        show bh_ap q se (8 * t) d (i + 1) (if bh_bit q i = 0 then la else upd la i (se (8 * t + i))) = _
        rw [if_pos hb]
      rw [e1, e2] at hp
      exact br_f (bh_8f hi8) ⟨bh_in4 ht, br_f (by rw [bh_cl (by omega), hw]; exact fun e => (bh_wY q hq i hi8).mp e hb) (nm_r (nI_1 i) (ih (i + 1) w la (by omega) hp))⟩
    · have e1 : w + bh_ct q (d + 1) i = (w + 1) + bh_ct q d (i + 1) := by
        have h1 : bh_bit q i = 1 := (bh_bit01 q i).resolve_left hb
        show w + (bh_bit q i + bh_ct q d (i + 1)) = _
        omega
      have e2 : bh_ap q se (8 * t) (d + 1) i la = bh_ap q se (8 * t) d (i + 1) (upd la i (se (8 * t + i))) := by
        show bh_ap q se (8 * t) d (i + 1) (if bh_bit q i = 0 then la else upd la i (se (8 * t + i))) = _
        rw [if_neg hb]
      rw [e1, e2] at hp
      exact br_f (bh_8f hi8) ⟨bh_in4 ht, br_t (by rw [bh_cl (by omega), hw]; exact (bh_wY q hq i hi8).mpr hb) ⟨bh_inY ht hi8, bh_in8 hi8, nm_r (e' := upd la i (se (8 * t + i))) (by rw [bh_cY ht hi8, bh_cl (by omega)]) (nm_r (nI_1 w) (nm_r (nI_1 i) (ih (i + 1) (w + 1) _ (by omega) hp)))⟩⟩
theorem bh_Yap {t q w c : Nat} (ht : t < 4) (hq : q < 256) (hw : wr t = nI q) (hp : post (fs, ff, nI (c + 1), fg, nI (w + bh_ct q 8 0), sa, fl, bh_ap q se (8 * t) 8 0 la, bu, se, wr, bh_or (wr t) 4 0 ov)) : wpY_apply post (fs, ff, nI c, fg, nI w, sa, fl, la, bu, se, wr, ov) (nI t) :=
  nm_r (nI_1 c) ⟨9, bh_YapL ht hq hw 8 0 w la rfl hp⟩
theorem bh_YcrL : ∀ (d i : Nat) (la : Nat → Int32), i + d = 8 → post (fs, ff, fs, 0, 0, sa, fl, bh_cp sa 0 d i la, bu, se, wr, ov) → wY_crash_22 post fs ff fc fg fw (d + 1) (nI i) sa fl la bu se wr ov := by
  intro d
  induction d with
  | zero => intro i la hi hp; exact br_t (bh_8t hi) hp
  | succ d ih =>
    intro i la hi hp
    exact br_f (bh_8f (by omega)) ⟨bh_in8 (by omega), bh_in8 (by omega), nm_r (e' := upd la (0 + i) (sa i)) (by rw [bh_cl (by omega), Nat.zero_add]) (nm_r (nI_1 i) (ih (i + 1) _ (by omega) hp))⟩
theorem bh_YczL : ∀ (d i : Nat) (bu : Nat → Int32), i + d = 4 → post (fs, ff, fs, 0, 0, sa, fl, bh_cp sa 0 8 0 la, bh_z d i bu, se, wr, ov) → wY_crash_2 post fs ff fc fg fw (d + 1) (nI i) sa fl la bu se wr ov := by
  intro d
  induction d with
  | zero => intro i bu hi hp; exact br_t (bh_4t hi) ⟨9, bh_YcrL 8 0 la rfl hp⟩
  | succ d ih =>
    intro i bu hi hp
    exact br_f (bh_4f (by omega)) ⟨bh_in4 (by omega), nm_r (e' := upd bu i 0) (by rw [bh_cl (by omega), bh_nb0]) (nm_r (nI_1 i) (ih (i + 1) _ (by omega) hp))⟩
theorem bh_Ycr (hp : post (fs, ff, fs, 0, 0, sa, fl, bh_cp sa 0 8 0 la, bh_z 4 0 bu, se, wr, ov)) : wpY_crash post (fs, ff, fc, fg, fw, sa, fl, la, bu, se, wr, ov) :=
  ⟨5, bh_YczL 4 0 bu rfl hp⟩
end
section
variable {post : Int32 → SY → Prop} {fs ff fc fg fw : Int32} {sa fl la bu se wr ov : Nat → Int32}
theorem bh_YslL : ∀ (d i : Nat) (fl : Nat → Int32), i + d = 8 → post fg (fs, ff, fc, fg, fw, sa, bh_cp la 0 d i fl, la, bu, se, wr, ov) → wY_seal_48 post fs ff fc fg fw (d + 1) (nI i) sa fl la bu se wr ov := by
  intro d
  induction d with
  | zero => intro i fl hi hp; exact br_t (bh_8t hi) hp
  | succ d ih =>
    intro i fl hi hp
    exact br_f (bh_8f (by omega)) ⟨bh_in8 (by omega), bh_in8 (by omega), nm_r (e' := upd fl (0 + i) (la i)) (by rw [bh_cl (by omega), Nat.zero_add]) (nm_r (nI_1 i) (ih (i + 1) _ (by omega) hp))⟩
theorem bh_YflL {x : Int32} : ∀ (d i : Nat) (sa : Nat → Int32), i + d = 8 → wY_flush_71 post x fs ff fc fg fw (bh_cp fl 0 d i sa) fl la bu se wr ov → wY_flush_47 post x fs ff fc fg fw (d + 1) (nI i) sa fl la bu se wr ov := by
  intro d
  induction d with
  | zero => intro i sa hi hp; exact br_t (bh_8t hi) hp
  | succ d ih =>
    intro i sa hi hp
    exact br_f (bh_8f (by omega)) ⟨bh_in8 (by omega), bh_in8 (by omega), nm_r (e' := upd sa (0 + i) (fl i)) (by rw [bh_cl (by omega), Nat.zero_add]) (nm_r (nI_1 i) (ih (i + 1) _ (by omega) hp))⟩
theorem bh_YstL {t : Nat} (ht : t < 4) : ∀ (d i : Nat) (se : Nat → Int32), i + d = 8 → post (nI t) (fs, ff, fc, fg, fw, sa, fl, la, bu, bh_cp la (8 * t) d i se, wr, ov) → wY_begin_53 post (nI t) fs ff fc fg fw (d + 1) (nI i) sa fl la bu se wr ov := by
  intro d
  induction d with
  | zero => intro i se hi hp; exact br_t (bh_8t hi) hp
  | succ d ih =>
    intro i se hi hp
    exact br_f (bh_8f (by omega)) ⟨bh_in8 (by omega), bh_inY ht (by omega), nm_r (e' := upd se (8 * t + i) (la i)) (by rw [bh_cY ht (by omega), bh_cl (by omega)]) (nm_r (nI_1 i) (ih (i + 1) _ (by omega) hp))⟩
theorem bh_n4 {t : Nat} (ht : t < 4) : ¬ nI t = 4 := by
  intro e
  rw [show (4 : Int32) = nI 4 from rfl, nI_eq (by omega) (by omega)] at e
  omega
theorem bh_Yst {t : Nat} (ht : t < 4) (hp : post (nI t) (fs, ff, fc, fg, fw, sa, fl, la, upd bu t 1, bh_cp la (8 * t) 8 0 se, upd wr t 0, upd ov t 0)) : wY_begin_22 post (nI t) fs ff fc fg fw sa fl la bu se wr ov :=
  br_f (bh_n4 ht) ⟨bh_in4 ht, nm_r (e' := upd bu t 1) (by rw [bh_cl (by omega), bh_nb1]) ⟨bh_in4 ht, nm_r (e' := upd wr t 0) (by rw [bh_cl (by omega)]) ⟨bh_in4 ht, nm_r (e' := upd ov t 0) (by rw [bh_cl (by omega)]) ⟨9, bh_YstL ht 8 0 se rfl hp⟩⟩⟩⟩
theorem bh_YbeL {m : Nat} (hu : ∀ j, j < 4 → bu j = nI (bh_bit m j)) : ∀ d i : Nat, i + d = 4 → (bh_fr m d i = 4 → post (-2) (fs, ff, fc, fg, fw, sa, fl, la, bu, se, wr, ov)) → (∀ t : Nat, t < 4 → bh_fr m d i = t → post (nI t) (fs, ff, fc, fg, fw, sa, fl, la, upd bu t 1, bh_cp la (8 * t) 8 0 se, upd wr t 0, upd ov t 0)) → wY_begin_2 post fs ff fc fg fw sa fl la bu se wr ov (d + 1) (nI i) := by
  intro d
  induction d with
  | zero =>
    intro i hi h1 h2
    have e : i = 4 := by omega
    subst e
    exact br_t (bh_4t rfl) (br_t rfl (h1 rfl))
  | succ d ih =>
    intro i hi h1 h2
    have hi4 : i < 4 := by omega
    by_cases hb : bh_bit m i = 0
    · exact br_f (bh_4f hi4) ⟨bh_in4 hi4, br_t (by rw [bh_cl (by omega), hu i hi4]; exact bh_b0.mpr hb) (bh_Yst hi4 (h2 i hi4 (if_pos hb)))⟩
    · have e : bh_fr m (d + 1) i = bh_fr m d (i + 1) := if_neg hb
      rw [e] at h1 h2
      exact br_f (bh_4f hi4) ⟨bh_in4 hi4, br_f (by rw [bh_cl (by omega), hu i hi4]; exact fun e => hb (bh_b0.mp e)) (nm_r (nI_1 i) (ih (i + 1) (by omega) h1 h2))⟩
end
section
variable {post : Int32 → SX → Prop} {fc ff fs fw fg : Int32} {la fl sa se wr ov : Nat → Int32}
theorem bh_XbeL {m : Nat} (hm : m < 16) : ∀ d i : Nat, i + d = 4 → (bh_fr m d i = 4 → post (-2) (fc, ff, fs, fw, fg, nI m, la, fl, sa, se, wr, ov)) → (∀ t : Nat, t < 4 → bh_fr m d i = t → post (nI t) (fc, ff, fs, fw, fg, nI (m ||| 2 ^ t), la, fl, sa, bh_cp la (8 * t) 8 0 se, upd wr t 0, upd ov t 0)) → wX_begin_2 post fc ff fs fw fg (nI m) la fl sa se wr ov (d + 1) (nI i) := by
  intro d
  induction d with
  | zero =>
    intro i hi h1 h2
    have e : i = 4 := by omega
    subst e
    exact br_t (bh_4t rfl) (h1 rfl)
  | succ d ih =>
    intro i hi h1 h2
    have hi4 : i < 4 := by omega
    by_cases hb : bh_bit m i = 0
    · refine br_f (bh_4f hi4) (bh_XoF hm (Or.inr (Or.inr ⟨i, hi4, rfl, hb⟩)) ?_)
      refine br_t rfl (bh_Xst hi4 hm ?_)
      exact h2 i hi4 (if_pos hb)
    · have e : bh_fr m (d + 1) i = bh_fr m d (i + 1) := if_neg hb
      rw [e] at h1 h2
      refine br_f (bh_4f hi4) (bh_XoT hm hi4 hb ?_)
      exact br_f (by decide) (nm_r (nI_1 i) (ih (i + 1) (by omega) h1 h2))
end
theorem bh_frle (m : Nat) : ∀ d i : Nat, i + d = 4 → bh_fr m d i ≤ 4 := by
  intro d
  induction d with
  | zero => intro i hi; show i ≤ 4; omega
  | succ d ih =>
    intro i hi
    show (if bh_bit m i = 0 then i else bh_fr m d (i + 1)) ≤ 4
    by_cases hb : bh_bit m i = 0
    · rw [if_pos hb]; omega
    · rw [if_neg hb]; exact ih (i + 1) (by omega)
section
variable {post : Int32 → Prop} {fs ff fc fg fw : Int32} {sa fl la bu se wr ov : Nat → Int32}
theorem bh_YopL {m : Nat} (hm : m < 16) (hu : ∀ j, j < 4 → bu j = nI (bh_bit m j)) (hp : post (nI m)) : ∀ d i : Nat, i + d = 4 → wY_open_4 post fs ff fc fg fw sa fl la bu se wr ov (d + 1) (nI (m % 2 ^ i)) (nI i) := by
  intro d
  induction d with
  | zero =>
    intro i hi
    have e : i = 4 := by omega
    subst e
    rw [Nat.mod_eq_of_lt (show m < 2 ^ 4 from hm)]
    exact br_t (bh_4t rfl) hp
  | succ d ih =>
    intro i hi
    have hi4 : i < 4 := by omega
    by_cases hb : bh_bit m i = 0
    · exact br_f (bh_4f hi4) ⟨bh_in4 hi4, br_t (by rw [bh_cl (by omega), hu i hi4]; exact bh_b0.mpr hb) (nm_r (bh_oG0 m hm i hi4 hb) (nm_r (nI_1 i) (ih (i + 1) (by omega))))⟩
    · exact br_f (bh_4f hi4) ⟨bh_in4 hi4, br_f (by rw [bh_cl (by omega), hu i hi4]; exact fun e => hb (bh_b0.mp e)) (nm_r (bh_oG1 m hm i hi4 hb) (nm_r (nI_1 i) (ih (i + 1) (by omega))))⟩
theorem bh_Yop {m : Nat} (hm : m < 16) (hu : ∀ j, j < 4 → bu j = nI (bh_bit m j)) (hp : post (nI m)) : wpY_open post (fs, ff, fc, fg, fw, sa, fl, la, bu, se, wr, ov) := by
  refine ⟨5, ?_⟩
  have h := bh_YopL (post := post) (fs := fs) (ff := ff) (fc := fc) (fg := fg) (fw := fw) (sa := sa) (fl := fl) (la := la) (se := se) (wr := wr) (ov := ov) hm hu hp 4 0 rfl
  rw [show m % 2 ^ 0 = 0 from Nat.mod_one m] at h
  exact h
end

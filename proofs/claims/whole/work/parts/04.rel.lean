/-! the relation's numbers: c commits, f up to the flushing group, s durable, w waiting writes, g steps to go, m the open mask; wr the wrote masks, bu the reference's busy slots -/
def bh_R (k c f s w g m : Nat) (wr bu : Nat → Int32) : Prop :=
  c ≤ k ∧ f ≤ k ∧ s ≤ k ∧ w ≤ 8 * k ∧ g ≤ 8 * k + 1 ∧ m < 16 ∧ (∀ j, j < 4 → bu j = nI (bh_bit m j)) ∧ (∀ j, j < 4 → ∃ q, q < 256 ∧ wr j = nI q) ∧ (g = 0 → s ≤ c ∧ (w = 0 ↔ c = s)) ∧ (g ≠ 0 → f ≤ c ∧ (w = 0 ↔ c = f))
section
variable {k c f s w g m : Nat} {wr bu : Nat → Int32}
theorem bh_Rm (h : bh_R k c f s w g m wr bu) : m < 16 := by
  obtain ⟨_, _, _, _, _, hm, _⟩ := h
  exact hm
theorem bh_Ru (h : bh_R k c f s w g m wr bu) : ∀ j, j < 4 → bu j = nI (bh_bit m j) := by
  obtain ⟨_, _, _, _, _, _, hu, _⟩ := h
  exact hu
theorem bh_Rq (h : bh_R k c f s w g m wr bu) : ∀ j, j < 4 → ∃ q, q < 256 ∧ wr j = nI q := by
  obtain ⟨_, _, _, _, _, _, _, hq, _⟩ := h
  exact hq
theorem bh_Rup (h : bh_R k c f s w g m wr bu) : bh_R (k + 4) c f s w g m wr bu := by
  obtain ⟨h1, h2, h3, h4, h5, hm, hu, hq, h6, h7⟩ := h
  exact ⟨by omega, by omega, by omega, by omega, by omega, hm, hu, hq, h6, h7⟩
theorem bh_q0 (hq : ∀ j, j < 4 → ∃ q, q < 256 ∧ wr j = nI q) (t : Nat) (x : Int32) (hx : ∃ q, q < 256 ∧ x = nI q) : ∀ j, j < 4 → ∃ q, q < 256 ∧ upd wr t x j = nI q := by
  intro j hj
  by_cases e : j = t
  · subst e
    rw [bh_us]
    exact hx
  · rw [bh_un e]
    exact hq j hj
theorem bh_Rbe {t : Nat} (ht : t < 4) (h : bh_R k c f s w g m wr bu) : bh_R (k + 4) c f s w g (m ||| 2 ^ t) (upd wr t 0) (upd bu t 1) := by
  obtain ⟨h1, h2, h3, h4, h5, hm, hu, hq, h6, h7⟩ := h
  refine ⟨by omega, by omega, by omega, by omega, by omega, bh_oS16 m hm t ht, ?_, bh_q0 hq t 0 ⟨0, by decide, rfl⟩, h6, h7⟩
  intro j hj
  rw [bh_oSb m hm t ht j hj]
  by_cases e : j = t
  · subst e
    rw [bh_us, if_pos rfl]
    rfl
  · rw [bh_un e, if_neg e]
    exact hu j hj
theorem bh_uC {t : Nat} (ht : t < 4) (hm : m < 16) (hu : ∀ j, j < 4 → bu j = nI (bh_bit m j)) : ∀ j, j < 4 → upd bu t 0 j = nI (bh_bit (bh_clr m t) j) := by
  intro j hj
  rw [bh_oCb m hm t ht j hj]
  by_cases e : j = t
  · subst e
    rw [bh_us, if_pos rfl]
    rfl
  · rw [bh_un e, if_neg e]
    exact hu j hj
theorem bh_Rcl {t : Nat} (ht : t < 4) (h : bh_R k c f s w g m wr bu) : bh_R (k + 4) c f s w g (bh_clr m t) wr (upd bu t 0) := by
  obtain ⟨h1, h2, h3, h4, h5, hm, hu, hq, h6, h7⟩ := h
  exact ⟨by omega, by omega, by omega, by omega, by omega, bh_oC16 m hm t ht, bh_uC ht hm hu, hq, h6, h7⟩
theorem bh_Rwr {t i : Nat} (ht : t < 4) (hi : i < 8) (h : bh_R k c f s w g m wr bu) : bh_R (k + 4) c f s w g m (upd wr t (wr t ||| ((1 : Int32) <<< (nI i &&& 31)))) bu := by
  obtain ⟨h1, h2, h3, h4, h5, hm, hu, hq, h6, h7⟩ := h
  refine ⟨by omega, by omega, by omega, by omega, by omega, hm, hu, bh_q0 hq t _ ?_, h6, h7⟩
  obtain ⟨q, hq2, e⟩ := hq t ht
  exact ⟨q ||| 2 ^ i, bh_wS256 q hq2 i hi, by rw [e]; exact bh_wS q hq2 i hi⟩
theorem bh_Rco {t q : Nat} (ht : t < 4) (hq2 : q < 256) (hq0 : q ≠ 0) (h : bh_R k c f s w g m wr bu) : bh_R (k + 4) (c + 1) f s (w + bh_ct q 8 0) g (bh_clr m t) wr (upd bu t 0) := by
  obtain ⟨h1, h2, h3, h4, h5, hm, hu, hq, h6, h7⟩ := h
  have hle := bh_ctle q 8 0
  have hne : bh_ct q 8 0 ≠ 0 := fun e => hq0 ((bh_ct0 q hq2).mp e)
  refine ⟨by omega, by omega, by omega, by omega, by omega, bh_oC16 m hm t ht, bh_uC ht hm hu, hq, ?_, ?_⟩
  · intro e
    obtain ⟨a, _⟩ := h6 e
    exact ⟨by omega, by omega⟩
  · intro e
    obtain ⟨a, _⟩ := h7 e
    exact ⟨by omega, by omega⟩
theorem bh_Rse (h : bh_R k c f s w g m wr bu) : bh_R (k + 4) c c s 0 (w + 1) m wr bu := by
  obtain ⟨h1, h2, h3, h4, h5, hm, hu, hq, h6, h7⟩ := h
  exact ⟨by omega, by omega, by omega, by omega, by omega, hm, hu, hq, fun e => by omega, fun _ => ⟨by omega, by omega⟩⟩
theorem bh_Rf1 {n : Nat} (hn : n < g) (h : bh_R k c f s w g m wr bu) : bh_R (k + 4) c f s w (g - n) m wr bu := by
  obtain ⟨h1, h2, h3, h4, h5, hm, hu, hq, h6, h7⟩ := h
  exact ⟨by omega, by omega, by omega, by omega, by omega, hm, hu, hq, fun e => by omega, fun _ => h7 (by omega)⟩
theorem bh_Rf2 (hg : g ≠ 0) (h : bh_R k c f s w g m wr bu) : bh_R (k + 4) c f f w 0 m wr bu := by
  obtain ⟨h1, h2, h3, h4, h5, hm, hu, hq, h6, h7⟩ := h
  exact ⟨by omega, by omega, by omega, by omega, by omega, hm, hu, hq, fun _ => h7 hg, fun e => absurd rfl e⟩
theorem bh_Rcr (h : bh_R k c f s w g m wr bu) : bh_R (k + 4) s f s 0 0 0 wr (bh_z 4 0 bu) := by
  obtain ⟨h1, h2, h3, h4, h5, hm, hu, hq, h6, h7⟩ := h
  refine ⟨by omega, by omega, by omega, by omega, by omega, by decide, ?_, hq, fun _ => ⟨by omega, by omega⟩, fun e => absurd rfl e⟩
  intro j hj
  rw [bh_z4 bu j hj]
  have e : bh_bit 0 j = 0 := by
    unfold bh_bit
    rw [Nat.zero_div]
  rw [e]
  rfl
end
/-- the relation: what both keep alike is the same; the open mask against the busy slots; the counts -/
def i_Rel (k : Nat) (u : SX) (v : SY) : Prop := ∃ (c f s w g m : Nat) (la fl sa se wr ov bu : Nat → Int32), u = (nI c, nI f, nI s, nI w, nI g, nI m, la, fl, sa, se, wr, ov) ∧ v = (nI s, nI f, nI c, nI g, nI w, sa, fl, la, bu, se, wr, ov) ∧ bh_R k c f s w g m wr bu
theorem bh_mk {k : Nat} (c f s w g m : Nat) (la fl sa se wr ov bu : Nat → Int32) (h : bh_R k c f s w g m wr bu) : i_Rel k (nI c, nI f, nI s, nI w, nI g, nI m, la, fl, sa, se, wr, ov) (nI s, nI f, nI c, nI g, nI w, sa, fl, la, bu, se, wr, ov) :=
  ⟨c, f, s, w, g, m, la, fl, sa, se, wr, ov, bu, rfl, rfl, h⟩

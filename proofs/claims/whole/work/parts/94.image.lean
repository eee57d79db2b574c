theorem stM_o (σ : Sg) (x : Int32) {s : Nat} (hs : s ≠ 7) : stM σ x s = σ s := by
  funext k
  unfold stM
  rw [upA_r, if_neg (fun q => hs q.1)]
theorem stI_o (σ : Sg) (x : Int32) {s : Nat} (hs : s ≠ 6) : stI σ x s = σ s := by
  funext k
  unfold stI
  rw [upA_r, if_neg (fun q => hs q.1)]
theorem upA_o (σ : Sg) {s a : Nat} (k : Nat) (f : Nat → Int32) (hs : s ≠ a) : upA σ a k f s = σ s := by
  funext j
  rw [upA_r, if_neg (fun q => hs q.1)]
theorem Inv_image {lv lv1 : Nat → Bool} {σ X Y : Sg} {n : Nat} (hI : Inv lv σ) (hn : n < 4) (hX : ∀ s, s ≠ 2 + n → X s = σ s) (hlv : ∀ s, s ≠ 2 + n → lv1 s = lv s) (hl1 : lv1 (2 + n) = true) (hV : Sm (σ 0) (X (2 + n))) (hY : ∀ s, s ≠ 7 → Y s = stI X 0 s) (hYk : ∀ k, k < 6 ∨ 25 ≤ k → Y 7 k = σ 7 k) (hYc : Rm (1 + n) (σ 0) (Y 7)) (hYo : ∀ w v, okStore v → w ≠ 1 + n → Rm w v (σ 7) → Rm w v (Y 7)) : Inv lv1 (stM (upA Y 7 25 (upd (Y 7 25) n 1)) 0) := by
  have hG : ∀ s, s ≠ 7 → stM (upA Y 7 25 (upd (Y 7 25) n 1)) 0 s = stI X 0 s := fun s hs => by rw [stM_o _ _ hs, upA_o _ _ _ hs, hY s hs]
  have hR : ∀ w v, Rm w v (Y 7) → Rm w v (stM (upA Y 7 25 (upd (Y 7 25) n 1)) 0 7) := fun w v q => q
  have h25 : ∀ k, stM (upA Y 7 25 (upd (Y 7 25) n 1)) 0 7 25 k = if k = n then 1 else σ 7 25 k := fun k => by
    show upd (Y 7 25) n 1 k = _
    rw [upd_r, hYk 25 (by omega)]
  have h70 : stM (upA Y 7 25 (upd (Y 7 25) n 1)) 0 7 0 = stM σ 0 7 0 := by
    show upd (Y 7 0) 0 (if (0 : Int32) ≤ 0 then 0 else 0) = upd (σ 7 0) 0 (if (0 : Int32) ≤ 0 then 0 else 0)
    rw [hYk 0 (by omega)]
  have h7k : ∀ k, 26 ≤ k ∨ (1 ≤ k ∧ k < 6) → stM (upA Y 7 25 (upd (Y 7 25) n 1)) 0 7 k = σ 7 k := fun k hk => by
    unfold stM
    rw [upA_a, if_neg (by omega), upA_a, if_neg (by omega), hYk k (by omega)]
  obtain ⟨hok, hm0⟩ := hI.2.2.2.1
  have own : IvI1 (lv1 (2 + n)) n (stI X 0 (2 + n)) (stM (upA Y 7 25 (upd (Y 7 25) n 1)) 0 7) := by
    rw [stI_o _ _ (by omega)]
    refine ⟨fun q => ?_, fun _ => ⟨?_, hV.ok hok, hV.rm hok (hR _ _ hYc)⟩⟩
    · rw [hl1] at q; cases q
    · rw [h25, if_pos rfl]
  have oth : ∀ k, k < 4 → k ≠ n → IvI1 (lv (2 + k)) k (σ (2 + k)) (σ 7) → IvI1 (lv1 (2 + k)) k (stI X 0 (2 + k)) (stM (upA Y 7 25 (upd (Y 7 25) n 1)) 0 7) := by
    intro k hk4 hk h
    rw [stI_o _ _ (by omega), hX _ (by omega), hlv _ (by omega)]
    refine ⟨fun q => ?_, fun q => ?_⟩
    · rw [h25, if_neg hk]; exact h.1 q
    · obtain ⟨q1, q2, q3⟩ := h.2 q
      exact ⟨by rw [h25, if_neg hk]; exact q1, q2, hR _ _ (hYo _ _ q2 (by omega) q3)⟩
  have any : ∀ k, k < 4 → IvI1 (lv (2 + k)) k (σ (2 + k)) (σ 7) → IvI1 (lv1 (2 + k)) k (stI X 0 (2 + k)) (stM (upA Y 7 25 (upd (Y 7 25) n 1)) 0 7) := by
    intro k hk4 h
    by_cases c : k = n
    · subst c; exact own
    · exact oth k hk4 c h
  have hI' := hI
  obtain ⟨-, -, -, -, h12, h13, h14, h15⟩ := hI
  refine Inv_of (x := 0) hI' (hlv 8 (by omega)) (hlv 9 (by omega)) (fun k => ?_) ?_ ?_ h70 h7k ?_ ?_ ?_ ?_ ?_
  · rw [hG 6 (by omega)]
    unfold stI
    rw [hX 6 (by omega), upA_a, upA_a, hX 6 (by omega)]
  · rw [hG 8 (by omega), stI_o _ _ (by omega), hX 8 (by omega)]
  · rw [hG 9 (by omega), stI_o _ _ (by omega), hX 9 (by omega)]
  · rw [hG 0 (by omega), stI_o _ _ (by omega), hX 0 (by omega)]
    exact ⟨hok, hR _ _ (hYo 0 _ hok (by omega) hm0)⟩
  · rw [hG 2 (by omega)]; exact any 0 (by omega) h12
  · rw [hG 3 (by omega)]; exact any 1 (by omega) h13
  · rw [hG 4 (by omega)]; exact any 2 (by omega) h14
  · rw [hG 5 (by omega)]; exact any 3 (by omega) h15

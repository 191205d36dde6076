/-! reading and writing under known shapes; what stays as it was -/
theorem shp_wI (M : Mem) (n k : Nat) (v : Int32) (m : Nat) : shp (wI M n k v) m = shp M m := rfl
theorem wI_rd (M : Mem) (n k : Nat) (v : Int32) (a b : Nat) : (wI M n k v).1 a b = if a = n ∧ b = k then v else M.1 a b := rfl
theorem wI_2 (M : Mem) (n k : Nat) (v : Int32) : (wI M n k v).2 = M.2 := rfl
theorem wI_same (M : Mem) (n k : Nat) (v : Int32) : (wI M n k v).1 n k = v := by simp [wI]
theorem gI_at {M : Mem} {c n : Nat} (h : shp M n = some (.inl c)) (k : Nat) : gI M c n k = some (M.1 n k) := by simp [gI, h]
theorem gL_at {M : Mem} {c n : Nat} (h : shp M n = some (.inl c)) (k : Nat) : gL M c n k = some (M.2.1 n k) := by simp [gL, h]
theorem gR_at {M : Mem} {c n : Nat} (h : shp M n = some (.inl c)) (k : Nat) : gR M c n k = some (M.2.2.1 n k) := by simp [gR, h]
theorem pI_at {M : Mem} {c n : Nat} (h : shp M n = some (.inl c)) (k : Nat) (v : Int32) : pI M c n k v = some (wI M n k v) := by simp [pI, h]
theorem pL_at {M : Mem} {c n : Nat} (h : shp M n = some (.inl c)) (k : Nat) (v : Int64) : pL M c n k v = some (wL M n k v) := by simp [pL, h]
theorem pR_at {M : Mem} {c n : Nat} (h : shp M n = some (.inl c)) (k : Nat) (v : Nat) : pR M c n k v = some (wR M n k v) := by simp [pR, h]
theorem pZ_at {M : Mem} {c n : Nat} (h : shp M n = some (.inl c)) (k : Nat) {v : Int32} (hv : v = 0 ∨ v = 1) : pZ M c n k v = some (wI M n k v) := by simp [pZ, h, hv]
theorem ob_at {M : Mem} {c n : Nat} (h : shp M n = some (.inl c)) : ob M c n = some () := by simp [ob, h]
theorem zr_at {v : Int32} (hv : v = 0 ∨ v = 1) : zr v = some v := by simp [zr, hv]
theorem aln_at {M : Mem} {t n L : Nat} (h : shp M n = some (.inr (t, L))) : aln M t n = L := by simp [aln, h]
theorem aI_at {M : Mem} {t n L : Nat} (h : shp M n = some (.inr (t, L))) {i : Nat} (hi : i < L) (hn : n < 1000) (hL : L < 2 ^ 31) : aI M t n (nI i) = some (M.1 n i) := by
  have h1 : ¬ nI i < 0 := nI_pos (by omega)
  simp [aI, hn, h1, aln_at h, nI_clamp (show i < 2 ^ 31 by omega), hi]
theorem aL_at {M : Mem} {n L : Nat} (h : shp M n = some (.inr (3, L))) {i : Nat} (hi : i < L) (hL : L < 2 ^ 31) : aL M n (nI i) = some (M.2.1 n i) := by
  have h1 : ¬ nI i < 0 := nI_pos (by omega)
  simp [aL, h1, aln_at h, nI_clamp (show i < 2 ^ 31 by omega), hi]
theorem aR_at {M : Mem} {t n L : Nat} (h : shp M n = some (.inr (t, L))) {i : Nat} (hi : i < L) (hL : L < 2 ^ 31) : aR M t n (nI i) = some (M.2.2.1 n i) := by
  have h1 : ¬ nI i < 0 := nI_pos (by omega)
  simp [aR, h1, aln_at h, nI_clamp (show i < 2 ^ 31 by omega), hi]
theorem sI_at {M : Mem} {t n L : Nat} (h : shp M n = some (.inr (t, L))) {i : Nat} (hi : i < L) (hL : L < 2 ^ 31) (v : Int32) : sI M t n (nI i) v = some (wI M n i (nar t v)) := by
  have h1 : ¬ nI i < 0 := nI_pos (by omega)
  simp [sI, h1, aln_at h, nI_clamp (show i < 2 ^ 31 by omega), hi]
theorem sL_at {M : Mem} {n L : Nat} (h : shp M n = some (.inr (3, L))) {i : Nat} (hi : i < L) (hL : L < 2 ^ 31) (v : Int64) : sL M n (nI i) v = some (wL M n i v) := by
  have h1 : ¬ nI i < 0 := nI_pos (by omega)
  simp [sL, h1, aln_at h, nI_clamp (show i < 2 ^ 31 by omega), hi]
theorem nar0 (v : Int32) : nar 0 v = v := by simp [nar]
theorem bb_some {α β : Type} (x : α) (f : α → Option β) : (some x).bind f = f x := rfl
/-- only S was changed, and ints alone -/
def Fr (S : Nat → Nat → Prop) (M M' : Mem) : Prop := M'.2 = M.2 ∧ ∀ n k, ¬ S n k → M'.1 n k = M.1 n k
theorem fr_refl {S : Nat → Nat → Prop} {M : Mem} : Fr S M M := ⟨rfl, fun _ _ _ => rfl⟩
theorem fr_trans {S : Nat → Nat → Prop} {M M' M'' : Mem} (h : Fr S M M') (h' : Fr S M' M'') : Fr S M M'' := ⟨h'.1.trans h.1, fun n k hn => (h'.2 n k hn).trans (h.2 n k hn)⟩
theorem fr_mono {S S' : Nat → Nat → Prop} {M M' : Mem} (h : Fr S M M') (hs : ∀ n k, S n k → S' n k) : Fr S' M M' := ⟨h.1, fun n k hn => h.2 n k (fun hh => hn (hs n k hh))⟩
theorem fr_wI {S : Nat → Nat → Prop} {M : Mem} {n k : Nat} {v : Int32} (h : S n k) : Fr S M (wI M n k v) := ⟨rfl, fun a b hn => by
  rw [wI_rd, if_neg]
  rintro ⟨rfl, rfl⟩
  exact hn h⟩
theorem fr_put {S : Nat → Nat → Prop} {M M' : Mem} {n k : Nat} {v : Int32} (h' : Fr S M M') (h : S n k) : Fr S M (wI M' n k v) := fr_trans h' (fr_wI h)
theorem fr_sk {S : Nat → Nat → Prop} {M M' : Mem} (h : Fr S M M') (hS : Sk M) : Sk M' := by unfold Sk at *; rw [h.1]; exact hS
theorem fr_shp {S : Nat → Nat → Prop} {M M' : Mem} (h : Fr S M M') (n : Nat) : shp M' n = shp M n := by unfold shp; rw [h.1]
/-- what the calls that only ask leave alone: all that is told -/
def zT (n : Nat) : Prop := n < 46 ∨ (129 ≤ n ∧ n < 255) ∨ n = 256 ∨ n = 257
def Qf (M M' : Mem) : Prop := (Sk M → Sk M') ∧ ∀ n k, zT n → M'.1 n k = M.1 n k
theorem qf_refl {M : Mem} : Qf M M := ⟨id, fun _ _ _ => rfl⟩
theorem qf_trans {M M' M'' : Mem} (h : Qf M M') (h' : Qf M' M'') : Qf M M'' := ⟨fun hS => h'.1 (h.1 hS), fun n k hn => (h'.2 n k hn).trans (h.2 n k hn)⟩
theorem fr_q {S : Nat → Nat → Prop} {M M' : Mem} (h : Fr S M M') (hs : ∀ n k, S n k → ¬ zT n) : Qf M M' := ⟨fr_sk h, fun n k hn => h.2 n k (fun hh => hs n k hh hn)⟩
theorem oc_cong {M M' : Mem} {o : Nat} {a : Nat → Nat} (h : ∀ n k, o ≤ n → n < o + 11 → M'.1 n k = M.1 n k) (hc : OC M o a) : OC M' o a := by
  obtain ⟨h1, h2, h3, h4, h5⟩ := hc
  exact ⟨fun i hi => by rw [h _ _ (by omega) (by omega)]; exact h1 i hi, fun d hd j hj => by rw [h _ _ (by omega) (by omega)]; exact h2 d hd j hj, fun c hc j hj => by rw [h _ _ (by omega) (by omega)]; exact h3 c hc j hj, fun d hd => by rw [h _ _ (by omega) (by omega)]; exact h4 d hd, fun d hd s hs => by rw [h _ _ (by omega) (by omega)]; exact h5 d hd s hs⟩
theorem ms_cong {M M' : Mem} {p n : Nat} {a : Nat → Nat} (h : ∀ k, M'.1 256 k = M.1 256 k) (hc : MS M p n a) : MS M' p n a := fun i hi => by rw [h]; exact hc i hi
theorem tr_cong {M M' : Mem} {T B : Nat} (h : ∀ n k, T ≤ n → n < T + 42 → M'.1 n k = M.1 n k) (h6 : ∀ k, M'.1 256 k = M.1 256 k) (hT : TR M T B) : TR M' T B := by
  obtain ⟨⟨n, h1, h2, h3, h4⟩, h5, h7, h8, c, h9, h10, h11, h12⟩ := hT
  refine ⟨⟨n, h1, ?_, ?_, fun i hi => ?_⟩, fun i hi => ?_, ?_, ?_, c, fun s hs => ⟨(h9 s hs).1, ?_, ?_⟩, fun k hk => ?_, fun k hk => ?_, fun k hk => ?_⟩
  · rw [h _ _ (by omega) (by omega)]; exact h2
  · rw [h6]; exact h3
  · rw [h6, h _ _ (by omega) (by omega)]; exact h4 i hi
  · rw [h _ _ (by omega) (by omega)]; exact h5 i hi
  · rw [h6, h _ _ (by omega) (by omega)]; exact h7
  · rw [h6, h _ _ (by omega) (by omega)]; exact h8
  · rw [h _ _ (by omega) (by omega)]; exact (h9 s hs).2.1
  · rw [h6]; exact (h9 s hs).2.2
  · have hc := (h9 0 (by omega)).1
    obtain ⟨a, g1, g2, g3⟩ := h10 k hk
    exact ⟨a, g1, ms_cong h6 g2, oc_cong (fun n k' hn hn' => h _ _ (by omega) (by omega)) g3⟩
  · have hc := (h9 1 (by omega)).1
    obtain ⟨a, g1, g2, g3, g4⟩ := h11 k hk
    exact ⟨a, g1, ms_cong h6 g2, by rw [h _ _ (by omega) (by omega)]; exact g3, fun j hj => by rw [h _ _ (by omega) (by omega), h _ _ (by omega) (by omega)]; exact g4 j hj⟩
  · have hc := (h9 2 (by omega)).1
    obtain ⟨n, g1, g2, g3, g4⟩ := h12 k hk
    refine ⟨n, g1, by rw [h6]; exact g2, by rw [h _ _ (by omega) (by omega)]; exact g3, fun j hj => ?_⟩
    rw [h6, h6, h6, h6, h _ _ (by omega) (by omega), h _ _ (by omega) (by omega), h _ _ (by omega) (by omega)]
    exact g4 j hj
theorem inv_q {M M' : Mem} (hI : Inv M) (h : Qf M M') : Inv M' := by
  obtain ⟨h1, h2, h3⟩ := hI
  have g : ∀ n k, zT n → M'.1 n k = M.1 n k := h.2
  refine ⟨h.1 h1, tr_cong (fun n k hn hn' => g n k (by unfold zT; omega)) (fun k => g 256 k (by unfold zT; omega)) h2, fun j hj => ?_⟩
  obtain ⟨g1, g2, g3⟩ := h3 j hj
  rw [g 45 j (by unfold zT; omega), g 257 j (by unfold zT; omega)]
  exact ⟨g1, g2, fun e => tr_cong (fun n k hn hn' => g n k (by unfold zT; omega)) (fun k => g 256 k (by unfold zT; omega)) (g3 e)⟩
/-- a loop that counts up, from k on -/
theorem iter_rel {σ ρ : Type} {f : σ → Option (σ ⊕ ρ)} (n : Nat) (St : Nat → σ → Prop) (Out : ρ → Prop)
    (hs : ∀ i s, i < n → St i s → (∃ s', f s = some (.inl s') ∧ St (i + 1) s') ∨ (∃ r, f s = some (.inr r) ∧ Out r))
    (hx : ∀ s, St n s → ∃ r, f s = some (.inr r) ∧ Out r) : ∀ (F k : Nat) (s : σ), k ≤ n → St k s → n - k < F → ∃ r, iter f F s = some r ∧ Out r := by
  intro F
  induction F with
  | zero => intro k s _ _ h; omega
  | succ F ih =>
    intro k s hk hS hF
    have hend : (∃ r, f s = some (.inr r) ∧ Out r) → ∃ r, iter f (F + 1) s = some r ∧ Out r := fun ⟨r, h1, h2⟩ => ⟨r, iter_end h1, h2⟩
    rcases Nat.lt_or_ge k n with h | h
    · rcases hs k s h hS with ⟨s', h1, h2⟩ | h1
      · obtain ⟨r, h3, h4⟩ := ih (k + 1) s' (by omega) h2 (by omega)
        exact ⟨r, by rw [iter_step h1]; exact h3, h4⟩
      · exact hend h1
    · have : k = n := by omega
      subst this
      exact hend (hx s hS)
/-- a loop that only reads: its value is a fold -/
theorem iter_fo {σ ρ α : Type} {f : σ → Option (σ ⊕ ρ)} (n : Nat) (g : Nat → α → α) (enc : Nat → α → σ) (out : α → ρ) (a : α)
    (hs : ∀ i, i < n → f (enc i (fo g i a)) = some (.inl (enc (i + 1) (g i (fo g i a)))))
    (hx : f (enc n (fo g n a)) = some (.inr (out (fo g n a)))) (F : Nat) (hF : n < F) : iter f F (enc 0 a) = some (out (fo g n a)) := by
  obtain ⟨r, h1, h2⟩ := iter_rel n (fun i s => s = enc i (fo g i a)) (fun r => r = out (fo g n a)) (fun i s hi h => Or.inl ⟨_, by rw [h]; exact hs i hi, rfl⟩) (fun s h => ⟨_, by rw [h]; exact hx, rfl⟩) F 0 (enc 0 a) (Nat.zero_le _) rfl (by omega)
  rw [h1, h2]

/-! what is made, and calls -/
def ob (M : Mem) (c n : Nat) : Option Unit := if shp M n = some (.inl c) then some () else none
def dvk (t : Nat) : Value := if t = 0 then .int 0 else if t = 1 then .long 0 else .null
theorem clsDv : ∀ (c : Nat) (C : String) (T : u_T) (N : Nat), classes[c]? = some (C, T, N) → ∃ ty : Nat → FieldType, (∀ k, k < N → parseFieldDescriptor (T k).2.2.1 = some (ty k)) ∧ ∀ k, k < N → defaultValue (ty k) = dvk ((fk.getD c []).getD k 0) := by
  intro c C T N h
  match c, h with
  | 0, h => cases h; exact ⟨ty0, ty0_ok, by decide +kernel⟩
  | 1, h => cases h; exact ⟨ty1, ty1_ok, by decide +kernel⟩
  | 2, h => cases h; exact ⟨ty2, ty2_ok, by decide +kernel⟩
  | 3, h => cases h; exact ⟨ty3, ty3_ok, by decide +kernel⟩
  | 4, h => cases h; exact ⟨ty4, ty4_ok, by decide +kernel⟩
  | 5, h => cases h; exact ⟨ty5, ty5_ok, by decide +kernel⟩
  | 6, h => cases h; exact ⟨ty6, ty6_ok, by decide +kernel⟩
  | 7, h => cases h; exact ⟨ty7, ty7_ok, by decide +kernel⟩
  | 8, h => cases h; exact ⟨ty8, ty8_ok, by decide +kernel⟩
  | 9, h => cases h; exact ⟨ty9, ty9_ok, by decide +kernel⟩
  | 10, h => cases h; exact ⟨ty10, ty10_ok, by decide +kernel⟩
  | 11, h => cases h; exact ⟨ty11, ty11_ok, by decide +kernel⟩
  | 12, h => cases h; exact ⟨ty12, ty12_ok, by decide +kernel⟩
  | k + 13, h => simp [classes] at h
def PcS (G : Gv) (vs : List MV) (M : Mem) : Array Value → State → Prop := va_Pc (vs.map (cv G)) (fun U => Cx G U ∧ Rep G M U.heap ∧ U.heap.size = G.1 + M.2.2.2.length)
def QcS (G : Gv) (r : Option Value) (M' : Mem) (L S : Nat) : Array Value → State → Outcome → State → Prop := fun _ st o t => o = .returned r ∧ Rep G M' t.heap ∧ (M'.2.2.2.length = L ∧ ssum M'.2.2.2 = S) ∧ va_F (A0 G) st t
/-- the contract of a method: with these arguments and this memory it answers r and leaves M' -/
def MetS (l : Launch) (G : Gv) (Z : MI) (vs : List MV) (M : Mem) (r : Option Value) (M' : Mem) : Prop :=
  M.2.2.2.length + Z.2.2.2.2.cells < 999 → Met l Z.1 [Cond.code Z.1 Z.2.1 Z.2.2.1 Z.2.2.2.1] Z.2.2.2.2 (PcS G vs M) (QcS G r M' (M.2.2.2.length + Z.2.2.2.2.cells) (ssum M.2.2.2 + Z.2.2.2.2.slots)) Z.2.2.2.2.cells Z.2.2.2.2.slots (A0 G)
def ZK (Z : MI) (n : Nat) : Prop := Cond.code Z.1 Z.2.1 Z.2.2.1 Z.2.2.2.1 ∈ GW ∧ Cond.initialized Z.1.cls ∈ GW ∧ (Z.1.cls ≠ "java/lang/invoke/MethodHandle" ∧ Z.1.cls ≠ "java/lang/invoke/VarHandle") ∧ (parseMethodDescriptor Z.1.desc).map (fun d => d.parameters.length) = some n
def RoomOK (Y Z : MI) : Prop := Z.2.2.2.2.frames + 1 ≤ Y.2.2.2.2.frames ∧ 8 + (Z.2.2.1 + 11) + Z.2.2.2.2.locals ≤ Y.2.2.2.2.locals
section WS
variable {p : Program} {l : Launch} {e : Env} {R : Room} {s : State} {m : MethodId} {args : Array Value} {below : List Frame} {meth : Method} {c : Code} {H : Heap} {locs : List Loc} {cells slots : Nat} {Q : State → Prop} {g : JFrame} {G : Gv} {M M' : Mem} {lim : Nat × Nat}
theorem w_sz (k : H.size ≤ s.heap.size + cells → W p l e R s m args below meth c H locs cells slots Q g) : W p l e R s m args below meth c H locs cells slots Q g :=
  fun T hT X => k (by rw [← hT]; exact X.heapSize) T hT X
theorem rep_sz (hR : Rep G M H) (had : ∀ k, k < 999 → G.2.1 (k + 1) = G.1 + k) (hN : Cnt G s R lim M cells slots) (h1 : H.size ≤ s.heap.size + cells) (h2 : s.heap.size ≤ H.size) : H.size = G.1 + M.2.2.2.length := by
  have hlt := hN.lt
  obtain ⟨L0, S0, a1, a2, -⟩ := hN
  rcases Nat.eq_zero_or_pos M.2.2.2.length with q | q
  · omega
  · have h3 := (hR (M.2.2.2.length - 1) _ (wsOf_at (by omega))).lt
    dsimp only at h3
    rw [had _ (by omega)] at h3
    omega
theorem w_call {pc : Nat} {ls : Array Slot} {rest st0 : List Value} {r : Option Value} {a : Array Value} {mc ms L0 S0 : Nat} (hr : va_Run p l e R s m args below meth c H locs cells slots mc ms (F0 m pc ls st0) rest (QcS G r M' L0 S0 a) (A0 G)) (hS : va_S (A0 G) s.heap H locs)
    (kk : ∀ (H1 : Heap) (locs1 : List Loc), Rep G M' H1 → M'.2.2.2.length = L0 → ssum M'.2.2.2 = S0 → va_S (A0 G) s.heap H1 locs1 → W p l e R s m args below meth c H1 locs1 (cells + mc) (slots + ms) Q (F0 m (pc + 3) ls (r.toList ++ rest))) : W p l e R s m args below meth c H locs cells slots Q (F0 m pc ls st0) := by
  intro T hT X
  obtain ⟨v, st₀, t, T', L, h0, X', hL, e1, e2, ⟨hv, hp, ⟨hq1, hq2⟩, hz, hk⟩, st⟩ := hr T hT X
  cases hv
  rw [h0] at hz hk
  obtain ⟨t2, a1, b1⟩ := kk T'.heap (locs ++ L) (by rw [e1]; exact hp) hq1 hq2
    ⟨Nat.le_trans hS.1 (by rw [e1]; exact hz), fun q h1 h2 => by rw [e1, hk q (Nat.lt_of_lt_of_le h1 hS.1) h2]; exact hS.2.1 q h1 h2, fun q hq => by
      rcases List.mem_append.mp hq with h | h
      · exact hS.2.2 q h
      · exact hL q h⟩ T' rfl X'
  exact ⟨t2, st t2 a1, b1⟩
theorem pcS_pre {vs : List MV} (hC : Cx G s) (hR : Rep G M H) (hS : va_S (A0 G) s.heap H locs) (hz : H.size = G.1 + M.2.2.2.length) : FrameBlind (PcS G vs M) ∧ ∀ U : State, U.heap = H → s.WarmedH U.vm → PcS G vs M (vs.map (cv G)).toArray U := by
  refine ⟨fun a U g mk q => ?_, fun U hU hW => ⟨rfl, hC.warm hW (by rw [hU]; exact hS.1) (fun q h1 h2 => by rw [hU]; exact hS.2.1 q h1 h2), by rw [hU]; exact hR, by rw [hU]; exact hz⟩⟩
  obtain ⟨q1, q2, q3, q4⟩ := q
  exact ⟨q1, q2.calling g mk a, q3, q4⟩
end WS
section CL
variable {l : Launch} {G : Gv} {Y Z : MI} {lim : Nat × Nat} {α γ : Type} {K : α → Option (Option Value × Mem)} {pc idx n c nn : Nat} {ls : Loc_s} {st st0 : List MV} {M : Mem} {fz : Option γ} {rO : γ → Option MV} {mO : γ → Mem} {f : γ → Option α} {vs : List MV} {T : u_T} {N : Nat}
theorem cl_cat {st : List MV} (h : (st.map mcat).sum ≤ 8) : ((st.map (cv G)).map fun v => v.category).sum ≤ 8 := by
  rw [List.map_map]
  have : ((fun v => v.category) ∘ cv G) = mcat := funext fun v => cv_cat G v
  rw [this]
  exact h
/-- the room that a callee takes -/
theorem Cnt.room {s : State} {R : Room} {cells slots mc ms : Nat} (h : Cnt G s R lim M cells slots) (h1 : M.2.2.2.length + mc ≤ lim.1) (h2 : ssum M.2.2.2 + ms ≤ lim.2) : cells + mc ≤ R.cells ∧ slots + ms ≤ R.slots := by
  obtain ⟨L0, S0, a1, a2, a3, a4, a5, a6, a7, a8⟩ := h
  omega
theorem Cnt.add {s : State} {R : Room} {cells slots mc ms : Nat} {M' : Mem} (h : Cnt G s R lim M cells slots) (h1 : M.2.2.2.length + mc ≤ lim.1) (h2 : ssum M.2.2.2 + ms ≤ lim.2) (e1 : M'.2.2.2.length = M.2.2.2.length + mc) (e2 : ssum M'.2.2.2 = ssum M.2.2.2 + ms) : Cnt G s R lim M' (cells + mc) (slots + ms) := by
  obtain ⟨L0, S0, a1, a2, a3, a4, a5, a6, a7, a8⟩ := h
  exact ⟨L0, S0, a1, by omega, by omega, a4, a5, by omega, by omega, a8⟩
theorem Cnt.bnd {s : State} {R : Room} {cells slots : Nat} (h : Cnt G s R lim M cells slots) : M.2.2.2.length ≤ lim.1 ∧ ssum M.2.2.2 ≤ lim.2 ∧ lim.1 < 999 := by
  obtain ⟨L0, S0, a1, a2, a3, a4, a5, a6, a7, a8⟩ := h
  exact ⟨a6, a7, a8⟩
theorem callB_of2 {s : State} {args : Array Value} (hZ : ZK Z nn) (hl : Cond.methodLink Y.1.cls idx Z.1 ∈ GW) (hRm : RoomOK Y Z) (hw : ∀ w ∈ GW, ∀ a : Array Value, w.before a s = true) : CallB Y.2.2.2.2 s args Y.1.cls idx Z.1 Z.2.1 Z.2.2.1 Z.2.2.2.1 [Cond.code Z.1 Z.2.1 Z.2.2.1 Z.2.2.2.1] Z.2.2.2.2 Z.2.2.2.2.cells Z.2.2.2.2.slots nn := by
  obtain ⟨z1, z2, z3, z4⟩ := hZ
  refine ⟨rfl, rfl, hRm.1, hRm.2, fun w hwm a' U hW => ?_, List.mem_cons_self, hw _ z1 _, hw _ z2 _, z3, fun sig h => ?_, hw _ hl _⟩
  · rw [List.mem_singleton.mp hwm]
    exact word_at hW (good_of_word (List.mem_filter.mp z1).2) (hw _ z1 args)
  · rw [h] at z4
    exact (Option.some.inj z4).symm
theorem s_cVx (hZ : ZK Z nn) (hZ2 : Cond.instanceMethod Z.1 ∈ GW ∧ Cond.selects Z.1.cls Z.1 Z.1 ∈ GW) (hl : Cond.methodLink Y.1.cls idx Z.1 ∈ GW) (hc : classes[c]? = some (Z.1.cls, T, N)) (hs : shp M n = some (.inl c)) (hRm : RoomOK Y Z) (hn : vs.length = nn) (hst : st0 = vs.reverse ++ .inr (.inr n) :: st) (hcat : (st.map mcat).sum ≤ 8)
    (hroom : M.2.2.2.length ≤ lim.1 → ssum M.2.2.2 ≤ lim.2 → M.2.2.2.length + Z.2.2.2.2.cells ≤ lim.1 ∧ ssum M.2.2.2 + Z.2.2.2.2.slots ≤ lim.2) (hd : decode Y.2.1 pc = .ok (.invokevirtual idx, 3))
    (hz : ∀ z, fz = some z → MetS l G Z (.inr (.inr n) :: vs) M ((rO z).map (cv G)) (mO z)) (kk : ∀ z, Sim l G Y lim (f z) K (pc + 3) ls ((rO z).toList ++ st) (mO z)) : Sim l G Y lim (fz.bind f) K pc ls st0 M := by
  intro res hres
  obtain ⟨z, h1, h2⟩ := bind2 hres
  intro p e R s m args below meth cc H locs cells slots Q lsA hC hR hS hN hlen hlv hr
  have kk := fun H1 locs1 cells1 slots1 hR1 hS1 hN1 => kk z res h2 p e R s m args below meth cc H1 locs1 cells1 slots1 Q lsA hC hR1 hS1 hN1 hlen hlv hr
  obtain ⟨hx, hb, hml, hown, hnm, rfl, hCx⟩ := hC
  have hK := hCx.1
  have hw := hCx.2.2.2.1.1
  refine w_sz (fun hz1 => ?_)
  have hsz := rep_sz hR hCx.2.1 hN hz1 hS.1
  obtain ⟨l1, l2, l3⟩ := hN.bnd
  obtain ⟨r1, r2⟩ := hroom l1 l2
  have hM := hz z h1 (by omega)
  subst hst
  have h0 := (shp_lt hs).1
  obtain ⟨q1, q2⟩ := pcS_pre (vs := .inr (.inr n) :: vs) hCx hR hS hsz
  have hpre : PreV s H Z.1.cls (G.2.1 n) (PcS G (.inr (.inr n) :: vs) M) (vs.map (cv G)) := ⟨q1, va_recv hK hR (ci := c) (q0 := n - 1) hc (wsOf_shp hs), fun U hU hW => by
    have := q2 U hU hW
    simp only [List.map_cons, cv, rv_ref h0] at this
    exact this⟩
  refine w_call (va_runV (g := F0 m pc lsA (List.map (cv G) (vs.reverse ++ .inr (.inr n) :: st))) (rest := st.map (cv G)) ⟨hx, hb, hml, hown, fun w h => hw w h _⟩ hM ⟨callB_of2 hZ hl hRm hw, hw _ hZ2.1 _, hw _ hZ2.2 _⟩ hpre rfl (by simpa using hn) hlv.1 (by simp [cv, rv_ref h0]) (lv_room (cl_cat hcat)) hd (hN.room r1 r2)) hS (fun H1 locs1 hR1 e1 e2 hS1 => ?_)
  have := kk H1 locs1 _ _ hR1 hS1 (hN.add r1 r2 e1 e2)
  cases hrz : rO z <;> rw [hrz] at this <;> exact this
/-- a method of an object of class c that makes nothing -/
theorem s_cV (hZ : ZK Z nn) (hZ2 : Cond.instanceMethod Z.1 ∈ GW ∧ Cond.selects Z.1.cls Z.1 Z.1 ∈ GW) (hl : Cond.methodLink Y.1.cls idx Z.1 ∈ GW) (hc : classes[c]? = some (Z.1.cls, T, N)) (hRm : RoomOK Y Z) (h00 : Z.2.2.2.2.cells = 0 ∧ Z.2.2.2.2.slots = 0) (hn : vs.length = nn) (hst : st0 = vs.reverse ++ .inr (.inr n) :: st) (hcat : (st.map mcat).sum ≤ 8) (hd : decode Y.2.1 pc = .ok (.invokevirtual idx, 3))
    (hz : ∀ z, fz = some z → MetS l G Z (.inr (.inr n) :: vs) M ((rO z).map (cv G)) (mO z)) (kk : ∀ z, Sim l G Y lim (f z) K (pc + 3) ls ((rO z).toList ++ st) (mO z)) : Sim l G Y lim ((ob M c n).bind fun _ => fz.bind f) K pc ls st0 M := by
  intro res hres
  obtain ⟨u, h1, h2⟩ := bind2 hres
  obtain ⟨hs, -⟩ := ifs h1
  exact s_cVx hZ hZ2 hl hc hs hRm hn hst hcat (fun a b => by rw [h00.1, h00.2]; exact ⟨a, b⟩) hd hz kk res h2
/-- a static method -/
theorem s_cS (hZ : ZK Z nn) (hZ2 : Cond.static Z.1 ∈ GW) (hl : Cond.methodLink Y.1.cls idx Z.1 ∈ GW) (hRm : RoomOK Y Z) (h00 : Z.2.2.2.2.cells = 0 ∧ Z.2.2.2.2.slots = 0) (hn : vs.length = nn) (hst : st0 = vs.reverse ++ st) (hcat : (st.map mcat).sum ≤ 8) (hd : decode Y.2.1 pc = .ok (.invokestatic idx, 3))
    (hz : ∀ z, fz = some z → MetS l G Z vs M ((rO z).map (cv G)) (mO z)) (kk : ∀ z, Sim l G Y lim (f z) K (pc + 3) ls ((rO z).toList ++ st) (mO z)) : Sim l G Y lim (fz.bind f) K pc ls st0 M := by
  intro res hres
  obtain ⟨z, h1, h2⟩ := bind2 hres
  intro p e R s m args below meth cc H locs cells slots Q lsA hC hR hS hN hlen hlv hr
  have kk := fun H1 locs1 cells1 slots1 hR1 hS1 hN1 => kk z res h2 p e R s m args below meth cc H1 locs1 cells1 slots1 Q lsA hC hR1 hS1 hN1 hlen hlv hr
  obtain ⟨hx, hb, hml, hown, hnm, rfl, hCx⟩ := hC
  have hw := hCx.2.2.2.1.1
  refine w_sz (fun hz1 => ?_)
  have hsz := rep_sz hR hCx.2.1 hN hz1 hS.1
  obtain ⟨l1, l2, l3⟩ := hN.bnd
  obtain ⟨r1, r2⟩ : M.2.2.2.length + Z.2.2.2.2.cells ≤ lim.1 ∧ ssum M.2.2.2 + Z.2.2.2.2.slots ≤ lim.2 := by rw [h00.1, h00.2]; exact ⟨l1, l2⟩
  have hM := hz z h1 (by omega)
  subst hst
  refine w_call (va_runS (g := F0 m pc lsA (List.map (cv G) (vs.reverse ++ st))) (As := vs.map (cv G)) (rest := st.map (cv G)) ⟨hx, hb, hml, hown, fun w h => hw w h _⟩ hM ⟨callB_of2 hZ hl hRm hw, hw _ hZ2 _⟩ (pcS_pre hCx hR hS hsz) rfl (by simpa using hn) hlv.1 (by simp) (lv_room (cl_cat hcat)) hd (hN.room r1 r2)) hS (fun H1 locs1 hR1 e1 e2 hS1 => ?_)
  have := kk H1 locs1 _ _ hR1 hS1 (hN.add r1 r2 e1 e2)
  cases hrz : rO z <;> rw [hrz] at this <;> exact this
theorem rmS_le {mc ms : Nat} {u : Unit} (h : rmS lim M mc ms = some u) : M.2.2.2.length + mc ≤ lim.1 ∧ ssum M.2.2.2 + ms ≤ lim.2 := (ifs h).1
theorem rv_pos {n : Nat} (h : 0 < n) : cv G (.inr (.inr n)) = .ref (G.2.1 n) := rv_ref h
/-- a constructor; n is an object's number -/
theorem s_cI {Mz : Mem → Option α} {fm : Option Mem} (hZ : ZK Z nn) (hZ2 : Z.1.name = "<init>" ∧ Cond.instanceMethod Z.1 ∈ GW ∧ Z.2.2.2.1 = none) (hl : Cond.methodLink Y.1.cls idx Z.1 ∈ GW) (hRm : RoomOK Y Z) (hn : vs.length = nn) (hst : st0 = vs.reverse ++ .inr (.inr n) :: st) (hcat : (st.map mcat).sum ≤ 8) (hd : decode Y.2.1 pc = .ok (.invokespecial idx, 3))
    (hz : ∀ z, fm = some z → MetS l G Z (.inr (.inr n) :: vs) M none z) (kk : ∀ z, Sim l G Y lim (Mz z) K (pc + 3) ls st z) : Sim l G Y lim ((ob M c n).bind fun _ => (rmS lim M Z.2.2.2.2.cells Z.2.2.2.2.slots).bind fun _ => fm.bind Mz) K pc ls st0 M := by
  intro res hres
  obtain ⟨u0, h0, hres⟩ := bind2 hres
  obtain ⟨hs, -⟩ := ifs h0
  obtain ⟨u, h9, hres⟩ := bind2 hres
  obtain ⟨r1, r2⟩ := rmS_le h9
  obtain ⟨z, h1, h2⟩ := bind2 hres
  intro p e R s m args below meth cc H locs cells slots Q lsA hC hR hS hN hlen hlv hr
  have kk := fun H1 locs1 cells1 slots1 hR1 hS1 hN1 => kk z res h2 p e R s m args below meth cc H1 locs1 cells1 slots1 Q lsA hC hR1 hS1 hN1 hlen hlv hr
  obtain ⟨hx, hb, hml, hown, hnm, rfl, hCx⟩ := hC
  have hw := hCx.2.2.2.1.1
  refine w_sz (fun hz1 => ?_)
  have hsz := rep_sz hR hCx.2.1 hN hz1 hS.1
  obtain ⟨l1, l2, l3⟩ := hN.bnd
  have hM := hz z h1 (by omega)
  subst hst
  have h0 := (shp_lt hs).1
  obtain ⟨q1, q2⟩ := pcS_pre (vs := .inr (.inr n) :: vs) hCx hR hS hsz
  have hpre : PreS s H (PcS G (.inr (.inr n) :: vs) M) (.ref (G.2.1 n) :: vs.map (cv G)) := ⟨q1, fun U hU hW => by
    have := q2 U hU hW
    simp only [List.map_cons, rv_pos h0] at this
    exact this⟩
  have hcb := callB_of2 (args := args) hZ hl hRm hw
  rw [hZ2.2.2] at hcb hM
  refine w_call (va_runI (g := F0 m pc lsA (List.map (cv G) (vs.reverse ++ .inr (.inr n) :: st))) (rest := st.map (cv G)) ⟨hx, hb, hml, hown, fun w h => hw w h _⟩ hM ⟨hcb, hZ2.1, hw _ hZ2.2.1 _⟩ hpre rfl (by simpa using hn) hlv.1 (by simp [rv_pos h0]) (lv_room (cl_cat hcat)) hd (hN.room r1 r2)) hS (fun H1 locs1 hR1 e1 e2 hS1 => ?_)
  exact kk H1 locs1 _ _ hR1 hS1 (hN.add r1 r2 e1 e2)
/-- a private constructor of a nest mate -/
theorem s_cIN {Mz : Mem → Option α} {fm : Option Mem} {host : String} (hZ : ZK Z nn) (hZ2 : Z.1.name = "<init>" ∧ Cond.instanceMethod Z.1 ∈ GW ∧ Z.2.2.2.1 = none) (hl : Cond.methodLinkNest Y.1.cls idx Z.1 host ∈ NW) (hRm : RoomOK Y Z) (hn : vs.length = nn) (hst : st0 = vs.reverse ++ .inr (.inr n) :: st) (hcat : (st.map mcat).sum ≤ 8) (hd : decode Y.2.1 pc = .ok (.invokespecial idx, 3))
    (hz : ∀ z, fm = some z → MetS l G Z (.inr (.inr n) :: vs) M none z) (kk : ∀ z, Sim l G Y lim (Mz z) K (pc + 3) ls st z) : Sim l G Y lim ((ob M c n).bind fun _ => (rmS lim M Z.2.2.2.2.cells Z.2.2.2.2.slots).bind fun _ => fm.bind Mz) K pc ls st0 M := by
  intro res hres
  obtain ⟨u0, h0, hres⟩ := bind2 hres
  obtain ⟨hs, -⟩ := ifs h0
  obtain ⟨u, h9, hres⟩ := bind2 hres
  obtain ⟨r1, r2⟩ := rmS_le h9
  obtain ⟨z, h1, h2⟩ := bind2 hres
  intro p e R s m args below meth cc H locs cells slots Q lsA hC hR hS hN hlen hlv hr
  have kk := fun H1 locs1 cells1 slots1 hR1 hS1 hN1 => kk z res h2 p e R s m args below meth cc H1 locs1 cells1 slots1 Q lsA hC hR1 hS1 hN1 hlen hlv hr
  obtain ⟨hx, hb, hml, hown, hnm, rfl, hCx⟩ := hC
  have hw := hCx.2.2.2.1.1
  have hnw := hCx.2.2.2.1.2.1
  refine w_sz (fun hz1 => ?_)
  have hsz := rep_sz hR hCx.2.1 hN hz1 hS.1
  obtain ⟨l1, l2, l3⟩ := hN.bnd
  have hM := hz z h1 (by omega)
  subst hst
  have h0 := (shp_lt hs).1
  obtain ⟨q1, q2⟩ := pcS_pre (vs := .inr (.inr n) :: vs) hCx hR hS hsz
  have hpre : PreS s H (PcS G (.inr (.inr n) :: vs) M) (.ref (G.2.1 n) :: vs.map (cv G)) := ⟨q1, fun U hU hW => by
    have := q2 U hU hW
    simp only [List.map_cons, rv_pos h0] at this
    exact this⟩
  obtain ⟨z1, z2, z3, z4⟩ := hZ
  rw [hZ2.2.2] at z1 hM
  have hcn : va_CN Y.2.2.2.2 s args Y.1.cls idx Z.1 host Z.2.1 Z.2.2.1 none [Cond.code Z.1 Z.2.1 Z.2.2.1 none] Z.2.2.2.2 Z.2.2.2.2.cells Z.2.2.2.2.slots nn := by
    refine ⟨⟨rfl, rfl, hRm.1, hRm.2, fun w hwm a' U hW => ?_, List.mem_cons_self⟩, hw _ z1 _, hw _ z2 _, z3, fun sig h => ?_, va_Nw.use rfl (hnw _ hl)⟩
    · rw [List.mem_singleton.mp hwm]
      exact word_at hW (good_of_word (List.mem_filter.mp z1).2) (hw _ z1 args)
    · rw [h] at z4
      exact (Option.some.inj z4).symm
  refine w_call (va_runIN (g := F0 m pc lsA (List.map (cv G) (vs.reverse ++ .inr (.inr n) :: st))) (rest := st.map (cv G)) ⟨hx, hb, hml, hown, fun w h => hw w h _⟩ hM ⟨hcn, hZ2.1, hw _ hZ2.2.1 _⟩ hpre rfl (by simpa using hn) hlv.1 (by simp [rv_pos h0]) (lv_room (cl_cat hcat)) hd (hN.room r1 r2)) hS (fun H1 locs1 hR1 e1 e2 hS1 => ?_)
  exact kk H1 locs1 _ _ hR1 hS1 (hN.add r1 r2 e1 e2)
/-- Object() -/
theorem s_objInit {X : Option (Option Value × Mem)} (hl : Cond.methodLink Y.1.cls idx objectInit ∈ GW) (h1 : Cond.instanceMethod objectInit ∈ GW) (h2 : Cond.code objectInit ⟨#[0xb1]⟩ 1 none ∈ GW) (hs : shp M n = some (.inl c)) (hr : 1 ≤ Y.2.2.2.2.frames ∧ (st.map mcat).sum + 12 ≤ Y.2.2.2.2.locals) (hd : decode Y.2.1 pc = .ok (.invokespecial idx, 3)) (k : SimR l G Y lim X (pc + 3) ls st M) : SimR l G Y lim X pc ls (.inr (.inr n) :: st) M := by
  intro res hres p e R s m args below meth cc H locs cells slots Q lsA hC hR hS hN hlen hlv hrr
  have k := k res hres p e R s m args below meth cc H locs cells slots Q lsA hC hR hS hN hlen hlv hrr
  obtain ⟨hx, hb, hml, hown, hnm, rfl, hCx⟩ := hC
  have hw := hCx.2.2.2.1.1
  show W p l e Y.2.2.2.2 s m args below meth cc H locs cells slots Q (F0 m pc lsA (rv G n :: st.map (cv G)))
  rw [rv_ref (shp_lt hs).1]
  refine W.objInit hx hb hown (hw _ hl _) (hw _ h1 _) (hw _ h2 _) rfl (by rw [hml]; exact hlv.1) rfl hd hr.1 ?_ k
  have e1 : ((st.map (cv G)).map fun v => v.category).sum = (st.map mcat).sum := by
    rw [List.map_map]
    have : ((fun v => v.category) ∘ cv G) = mcat := funext fun v => cv_cat G v
    rw [this]
  have e2 : 2 * (F0 m pc lsA (Value.ref (G.2.1 n) :: st.map (cv G))).monitorRoom = 0 := rfl
  rw [e1, e2]
  omega
theorem s_objI {f : Option α} (hl : Cond.methodLink Y.1.cls idx objectInit ∈ GW) (h1 : Cond.instanceMethod objectInit ∈ GW) (h2 : Cond.code objectInit ⟨#[0xb1]⟩ 1 none ∈ GW) (hr : 1 ≤ Y.2.2.2.2.frames ∧ (st.map mcat).sum + 12 ≤ Y.2.2.2.2.locals) (hd : decode Y.2.1 pc = .ok (.invokespecial idx, 3)) (k : Sim l G Y lim f K (pc + 3) ls st M) : Sim l G Y lim ((ob M c n).bind fun _ => f) K pc ls (.inr (.inr n) :: st) M := by
  intro res hres
  obtain ⟨u0, h0, hres⟩ := bind2 hres
  obtain ⟨hs, -⟩ := ifs h0
  exact s_objInit hl h1 h2 hs hr hd k res hres
end CL

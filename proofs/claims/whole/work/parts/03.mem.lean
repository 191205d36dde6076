/-! memory: ints, longs, references by object number and slot; the shapes of what was made (object numbers count from 1, 0 is null; from 1000 on: what was there before and is only read) -/
abbrev Sh : Type := Nat ⊕ (Nat × Nat)
abbrev Mem : Type := (Nat → Nat → Int32) × (Nat → Nat → Int64) × (Nat → Nat → Nat) × List Sh
abbrev MV : Type := Int32 ⊕ Int64 ⊕ Nat
abbrev Gv : Type := Nat × (Nat → Nat) × va_G × (Nat → ClassId) × List Int32
abbrev MI : Type := MethodName × ByteArray × Nat × Option FieldType × Room
def fk : List (List Nat) := [[1, 1, 2, 2], [0, 2, 2], [0, 0, 0, 2, 0, 0, 0, 0, 0, 2, 2, 2, 2], [0, 0, 0], [0, 2, 2, 2], [0, 0, 0, 0, 0, 2, 2, 2, 2, 2, 2, 2, 2, 2, 2], [0, 0, 2, 2, 2, 2, 2, 2], [2, 2, 2, 0, 0, 2, 2, 0, 0, 0, 0, 0], [0, 2, 2, 2, 2], [2, 0, 0, 0, 2, 2, 2, 2], [0, 2, 2, 2, 0, 2, 0], [2, 2, 2, 2, 2, 2, 2, 2, 2, 2], [2, 2, 0, 0, 0, 0, 0, 0, 0, 0, 2, 0, 0, 0, 2, 2, 0, 0, 0, 0, 0, 0, 0, 0, 0, 0, 0, 0, 2, 2, 2, 0, 0, 0, 2, 0, 2, 0, 0, 2, 2, 2, 2, 0]]
def shp (M : Mem) (n : Nat) : Option Sh := if n = 0 then none else M.2.2.2[n - 1]?
def wI (M : Mem) (n k : Nat) (v : Int32) : Mem := (fun a b => if a = n ∧ b = k then v else M.1 a b, M.2)
def wL (M : Mem) (n k : Nat) (v : Int64) : Mem := (M.1, fun a b => if a = n ∧ b = k then v else M.2.1 a b, M.2.2)
def wR (M : Mem) (n k : Nat) (v : Nat) : Mem := (M.1, M.2.1, fun a b => if a = n ∧ b = k then v else M.2.2.1 a b, M.2.2.2)
/-- fields: of an object n of class c, the slot k -/
def gI (M : Mem) (c n k : Nat) : Option Int32 := if shp M n = some (.inl c) then some (M.1 n k) else none
def gL (M : Mem) (c n k : Nat) : Option Int64 := if shp M n = some (.inl c) then some (M.2.1 n k) else none
def gR (M : Mem) (c n k : Nat) : Option Nat := if shp M n = some (.inl c) then some (M.2.2.1 n k) else none
def pI (M : Mem) (c n k : Nat) (v : Int32) : Option Mem := if shp M n = some (.inl c) then some (wI M n k v) else none
def pL (M : Mem) (c n k : Nat) (v : Int64) : Option Mem := if shp M n = some (.inl c) then some (wL M n k v) else none
def pR (M : Mem) (c n k : Nat) (v : Nat) : Option Mem := if shp M n = some (.inl c) then some (wR M n k v) else none
/-- arrays: kind t (0 int, 1 byte, 2 boolean, 3 long, from 4 on references), their length; what stood before: int arrays alone -/
def aln (M : Mem) (t n : Nat) : Nat := match shp M n with
  | some (.inr (t', k)) => if t' = t then k else 0
  | _ => 0
def roA : Nat → List Int32
  | 0 => [0, 0, 0, 0, 0, 0, 0, 0]
  | 1 => [0, 9, 13, 15]
  | 2 => [4, 4, 4, 4, 4, 3, 1, 1, 1, 1, 1, 1, 1, 3, 1]
  | 3 => [0, 1, 0, 0]
  | 4 => [30, 12, 20, 10]
  | 5 => [0, 0, 1]
  | 6 => [7, 99, 20]
  | 7 => [0, 0, 1]
  | 8 => [7, 7, 12]
  | 9 => [0, 0, 0, 0, 0, 0, 30, 20, 9, 9, 7, 7, 7, 0, 7]
  | _ => []
def nar (t : Nat) (v : Int32) : Int32 := if t = 1 then vp_nar .byte v else if t = 2 then vp_nar .boolean v else v
def aI (M : Mem) (t n : Nat) (i : Int32) : Option Int32 :=
  if n < 1000 then (if ¬ i < 0 ∧ i.toNatClampNeg < aln M t n then some (M.1 n i.toNatClampNeg) else none)
  else (if t = 0 ∧ ¬ i < 0 then (roA (n - 1000))[i.toNatClampNeg]? else none)
def sI (M : Mem) (t n : Nat) (i v : Int32) : Option Mem := if ¬ i < 0 ∧ i.toNatClampNeg < aln M t n then some (wI M n i.toNatClampNeg (nar t v)) else none
def aL (M : Mem) (n : Nat) (i : Int32) : Option Int64 := if ¬ i < 0 ∧ i.toNatClampNeg < aln M 3 n then some (M.2.1 n i.toNatClampNeg) else none
def sL (M : Mem) (n : Nat) (i : Int32) (v : Int64) : Option Mem := if ¬ i < 0 ∧ i.toNatClampNeg < aln M 3 n then some (wL M n i.toNatClampNeg v) else none
def aR (M : Mem) (t n : Nat) (i : Int32) : Option Nat := if ¬ i < 0 ∧ i.toNatClampNeg < aln M t n then some (M.2.2.1 n i.toNatClampNeg) else none
/-- a reference of class c into an array of such (null isn't stored here) -/
def sR (M : Mem) (t c n : Nat) (i : Int32) (v : Nat) : Option Mem := if (¬ i < 0 ∧ i.toNatClampNeg < aln M t n) ∧ shp M v = some (.inl c) then some (wR M n i.toNatClampNeg v) else none
def ssz : Sh → Nat
  | .inl c => (fk.getD c []).length
  | .inr (_, k) => k
def ssum (l : List Sh) : Nat := (l.map ssz).sum
def wN (M : Mem) (x : Sh) : Mem := (fun a b => if a = M.2.2.2.length + 1 then 0 else M.1 a b, fun a b => if a = M.2.2.2.length + 1 then 0 else M.2.1 a b, fun a b => if a = M.2.2.2.length + 1 then 0 else M.2.2.1 a b, M.2.2.2 ++ [x])
def newS (lim : Nat × Nat) (M : Mem) (x : Sh) : Option (Nat × Mem) := if M.2.2.2.length + 1 ≤ lim.1 ∧ ssum M.2.2.2 + ssz x ≤ lim.2 then some (M.2.2.2.length + 1, wN M x) else none
/-- room for a callee that makes mc cells of ms slots -/
def rmS (lim : Nat × Nat) (M : Mem) (mc ms : Nat) : Option Unit := if M.2.2.2.length + mc ≤ lim.1 ∧ ssum M.2.2.2 + ms ≤ lim.2 then some () else none
/-- the end of a method that makes cells: just as many as it says -/
def rtS (lim : Nat × Nat) (M : Mem) : Option Mem := if M.2.2.2.length = lim.1 ∧ ssum M.2.2.2 = lim.2 then some M else none
def zr (v : Int32) : Option Int32 := if v = 0 ∨ v = 1 then some v else none
def dvI (x y : Int32) : Option Int32 := if y = 0 then none else some (x / y)
def rmI (x y : Int32) : Option Int32 := if y = 0 then none else some (x - x / y * y)
def dvL (x y : Int64) : Option Int64 := if y = 0 then none else some (x / y)
def rmL (x y : Int64) : Option Int64 := if y = 0 then none else some (x - x / y * y)
def shr (x y : Int32) : Int32 := (x.toUInt32 >>> (y.toUInt32 &&& Int32.toUInt32 31)).toInt32
/-- a loop: at most n times round -/
def iter {σ ρ : Type} (f : σ → Option (σ ⊕ ρ)) : Nat → σ → Option ρ
  | 0, _ => none
  | n + 1, s => (f s).bind fun x => match x with
    | .inl s' => iter f n s'
    | .inr r => some r
/-! what the heap holds -/
def rof (G : Gv) (n : Nat) : Option Nat := if n = 0 then none else some (G.2.1 n)
def rv (G : Gv) (n : Nat) : Value := va_rf (rof G n)
def cv (G : Gv) : MV → Value
  | .inl x => .int x
  | .inr (.inl x) => .long x
  | .inr (.inr n) => rv G n
def mcat : MV → Nat
  | .inr (.inl _) => 2
  | _ => 1
def fval (G : Gv) (M : Mem) (n k t : Nat) : Value := if t = 0 then .int (M.1 n k) else if t = 1 then .long (M.2.1 n k) else rv G (M.2.2.1 n k)
def fv (G : Gv) (M : Mem) (n : Nat) (ks : List Nat) : List Value := (List.range ks.length).map (fun k => fval G M n k (ks.getD k 0))
def cont (G : Gv) (M : Mem) (n t : Nat) : (Nat → Int32) ⊕ (Nat → Int64) ⊕ (Nat → UInt32) ⊕ (Nat → UInt64) ⊕ (Nat → Option Nat) :=
  if t < 3 then .inl (fun j => M.1 n j) else if t = 3 then .inr (.inl (fun j => M.2.1 n j)) else .inr (.inr (.inr (.inr (fun j => rof G (M.2.2.1 n j)))))
def entS (G : Gv) (M : Mem) (n : Nat) : Sh → va_E
  | .inl c => .inr (c, fv G M n (fk.getD c []))
  | .inr (t, k) => .inl (G.2.2.2.1 t, k, cont G M n t)
def ent (G : Gv) (M : Mem) (n : Nat) : va_E := entS G M n ((shp M n).getD (.inl 0))
def wsOf (G : Gv) (M : Mem) : va_W := (List.range M.2.2.2.length).map (fun k => (G.2.1 (k + 1), ent G M (k + 1)))
def Rep (G : Gv) (M : Mem) (H : Heap) : Prop := va_P G.2.2.1 classes (wsOf G M) H
def A0 (G : Gv) : Nat → Prop := fun q => G.1 ≤ q
def aty : List FieldType := [.int, .byte, .boolean, .long, .object "DeskRings$Told", .object "DeskRings$Office", .object "DeskRings$Day", .object "DeskRings$Log"]
def tysOf (G : Gv) : List (ClassId × FieldType) := [(G.2.2.2.1 0, .int), (G.2.2.2.1 1, .byte), (G.2.2.2.1 2, .boolean), (G.2.2.2.1 3, .long), (G.2.2.2.1 4, .object "DeskRings$Told"), (G.2.2.2.1 5, .object "DeskRings$Office"), (G.2.2.2.1 6, .object "DeskRings$Day"), (G.2.2.2.1 7, .object "DeskRings$Log")]
def NW : List Cond := [Cond.methodLinkNest "DeskRings$Told" 42 ⟨"DeskRings$Day", "<init>", "()V"⟩ "DeskRings", Cond.methodLinkNest "DeskRings$Told" 43 ⟨"DeskRings$Log", "<init>", "()V"⟩ "DeskRings", Cond.methodLinkNest "DeskRings" 26 ⟨"DeskRings$Reader", "<init>", "()V"⟩ "DeskRings", Cond.methodLinkNest "DeskRings$Reader" 20 ⟨"DeskRings$Day", "<init>", "()V"⟩ "DeskRings", Cond.methodLinkNest "DeskRings$Reader" 27 ⟨"DeskRings$Log", "<init>", "()V"⟩ "DeskRings", Cond.methodLinkNest "DeskRings" 33 ⟨"DeskRings$Lift", "<init>", "()V"⟩ "DeskRings", Cond.methodLinkNest "DeskRings" 40 ⟨"DeskRings$Floor", "<init>", "()V"⟩ "DeskRings", Cond.methodLinkNest "DeskRings$Floor" 30 ⟨"DeskRings$Lift", "<init>", "()V"⟩ "DeskRings", Cond.methodLinkNest "DeskRings" 47 ⟨"DeskRings$Chances", "<init>", "()V"⟩ "DeskRings", Cond.methodLinkNest "DeskRings$Chances" 21 ⟨"DeskRings$Lift", "<init>", "()V"⟩ "DeskRings", Cond.methodLinkNest "DeskRings" 54 ⟨"DeskRings$Waiting", "<init>", "()V"⟩ "DeskRings", Cond.methodLinkNest "DeskRings" 61 ⟨"DeskRings$Suspects", "<init>", "()V"⟩ "DeskRings", Cond.methodLinkNest "DeskRings$Suspects" 24 ⟨"DeskRings$Lift", "<init>", "()V"⟩ "DeskRings", Cond.methodLinkNest "DeskRings" 68 ⟨"DeskRings$Plans", "<init>", "()V"⟩ "DeskRings", Cond.methodLinkNest "DeskRings$Plans" 17 ⟨"DeskRings$Floor", "<init>", "()V"⟩ "DeskRings", Cond.methodLinkNest "DeskRings$Plans" 24 ⟨"DeskRings$Lift", "<init>", "()V"⟩ "DeskRings", Cond.fieldLinkNest "DeskRings$Plans" 58 "DeskRings" "NO_HELP" "[I" "DeskRings", Cond.fieldLinkNest "DeskRings$Chances" 42 "DeskRings" "NO_HELP" "[I" "DeskRings", Cond.fieldLinkNest "DeskRings$Suspects" 70 "DeskRings" "NO_HELP" "[I" "DeskRings"]
def roC : List (String × String) := [("DeskRings", "NO_HELP"), ("DeskRings$Reader", "FIRST_WORD"), ("DeskRings$Reader", "NUMBERS_OF"), ("DeskRings$Reader", "DESK_LEAST"), ("DeskRings$Reader", "DESK_MOST"), ("DeskRings$Reader", "CALL_LEAST"), ("DeskRings$Reader", "CALL_MOST"), ("DeskRings$Reader", "LIFTED_LEAST"), ("DeskRings$Reader", "LIFTED_MOST"), ("DeskRings$Reader", "ONLY_MOST")]
/-- the words of the tables -/
def Wd (U : State) : Prop := (∀ w ∈ GW, ∀ a : Array Value, w.before a U = true) ∧ (∀ w ∈ NW, va_Nw w U) ∧ ∀ C ∈ ["DeskRings$Told", "DeskRings$Office", "DeskRings$Day", "DeskRings$Log"], va_AO C U
def roOK (G : Gv) (U : State) : Prop := ∀ j, j < 10 → va_T .int (G.2.1 (1000 + j)) (roA j).length (fun i => .int ((roA j).getD i 0)) (A0 G) U U.heap ∧ va_Z (roC.getD j ("", "")).1 (roC.getD j ("", "")).2 "[I" (.ref (G.2.1 (1000 + j))) (A0 G) U U.heap
def stTx : List (Nat × String) := [(197, "plain"), (199, "soft"), (201, "deaf"), (203, "fair"), (205, "near"), (207, "call"), (209, "ear"), (210, "machine"), (211, "fade"), (212, "ring"), (214, "away"), (216, "back"), (218, "read"), (220, "lifted"), (222, "silent")]
def stBy : List (List Int32) := stTx.map (fun q => q.2.toList.map (fun c => Int32.ofNat c.toNat))
def stOK (G : Gv) (U : State) : Prop := vk_S 15 (stBy.map List.length) stBy (fun i => G.2.1 (2000 + i)) (fun i => G.2.1 (3000 + i)) (A0 G) U U.heap ∧ (∀ i, i < 15 → vk_R "DeskRings$Reader" (stTx.getD i (0, "")).1 (stTx.getD i (0, "")).2 (G.2.1 (2000 + i)) U) ∧ va_Z "java/lang/String" "COMPACT_STRINGS" "Z" (.int 1) (A0 G) U U.heap ∧ va_Zq "jdk/internal/util/Preconditions" "SIOOBE_FORMATTER" "Ljava/util/function/BiFunction;" (A0 G) U U.heap
/-- the script -/
def scOK (G : Gv) (U : State) : Prop := va_T .int (G.2.1 4000) G.2.2.2.2.length (fun i => .int (G.2.2.2.2.getD i 0)) (A0 G) U U.heap
def scI (X : List Int32) (i : Int32) : Option Int32 := if ¬ i < 0 then X[i.toNatClampNeg]? else none
def Cx (G : Gv) (U : State) : Prop := va_K G.2.2.1 classes (tysOf G) U ∧ (∀ k, k < 999 → G.2.1 (k + 1) = G.1 + k) ∧ G.1 ≤ U.heap.size ∧ Wd U ∧ roOK G U ∧ stOK G U ∧ scOK G U
def asc (G : Gv) : Nat → List (Option MV) → List (Nat × Value)
  | _, [] => []
  | k, none :: r => asc G (k + 1) r
  | k, some v :: r => (k, cv G v) :: asc G (k + 1) r
def retI : Option Value → Instr
  | none => .return_
  | some (.int _) => .ireturn
  | some (.long _) => .lreturn
  | _ => .areturn
def retOK (ty : Option FieldType) : Option Value → Prop
  | none => ty = none
  | some (.int v) => ∃ t, ty = some t ∧ narrow t (.int v) = .int v
  | some (.long _) => ty = some .long
  | some v => (v = .null ∨ ∃ a, v = .ref a) ∧ ∃ t, ty = some t ∧ ((∃ n, t = .object n) ∨ ∃ u, t = .array u)
def Ctx (l : Launch) (G : Gv) (Y : MI) (p : Program) (R : Room) (s : State) (m : MethodId) (meth : Method) (c : Code) : Prop :=
  p.tables.exec = Jvm.exec ∧ c.code = Y.2.1 ∧ c.maxLocals = Y.2.2.1 ∧ s.vm.findClass Y.1.cls = some m.cls ∧ meth.name = Y.1.name ∧ R = Y.2.2.2.2 ∧ Cx G s
def Cnt (G : Gv) (s : State) (R : Room) (lim : Nat × Nat) (M : Mem) (cells slots : Nat) : Prop :=
  ∃ L0 S0 : Nat, s.heap.size = G.1 + L0 ∧ cells + L0 = M.2.2.2.length ∧ slots + S0 = ssum M.2.2.2 ∧ lim.1 ≤ L0 + R.cells ∧ lim.2 ≤ S0 + R.slots ∧ M.2.2.2.length ≤ lim.1 ∧ ssum M.2.2.2 ≤ lim.2 ∧ lim.1 < 999
/-- from pc, with these locals, this stack, this memory, the machine comes to the end that x tells -/
def SimR (l : Launch) (G : Gv) (Y : MI) (lim : Nat × Nat) (x : Option (Option Value × Mem)) (pc : Nat) (ls : List (Option MV)) (st : List MV) (M : Mem) : Prop :=
  ∀ res, x = some res → ∀ (p : Program) (e : Env) (R : Room) (s : State) (m : MethodId) (args : Array Value) (below : List Frame) (meth : Method) (c : Code) (H : Heap) (locs : List Loc) (cells slots : Nat) (Q : State → Prop) (lsA : Array Slot),
    Ctx l G Y p R s m meth c → Rep G M H → va_S (A0 G) s.heap H locs → Cnt G s R lim M cells slots → ls.length = Y.2.2.1 → lv_has lsA Y.2.2.1 (asc G 0 ls) →
    (∀ (H' : Heap) (locs' : List Loc) (cells' slots' : Nat) (lsA' : Array Slot) (pc' : Nat), decode Y.2.1 pc' = .ok (retI res.1, 1) → retOK Y.2.2.2.1 res.1 → Rep G res.2 H' → va_S (A0 G) s.heap H' locs' → Cnt G s R lim res.2 cells' slots' → W p l e R s m args below meth c H' locs' cells' slots' Q (F0 m pc' lsA' res.1.toList)) →
    W p l e R s m args below meth c H locs cells slots Q (F0 m pc lsA (st.map (cv G)))
/-- the same, of a piece e of the method, with what goes on behind it -/
def Sim (l : Launch) (G : Gv) (Y : MI) (lim : Nat × Nat) {α : Type} (e : Option α) (K : α → Option (Option Value × Mem)) (pc : Nat) (ls : List (Option MV)) (st : List MV) (M : Mem) : Prop := SimR l G Y lim (e.bind K) pc ls st M

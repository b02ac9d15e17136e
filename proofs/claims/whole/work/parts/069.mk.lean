/-! a callee's cells told by a row of yes and no (in the same order as the caller's): one pass instead of places -/
def mk1 : List Bool → va_W → va_W
  | true :: m, x :: xs => x :: mk1 m xs
  | false :: m, _ :: xs => mk1 m xs
  | _, _ => []
def mkz0 : List Bool → va_W → va_W
  | true :: m, _ :: xs => mkz0 m xs
  | false :: m, x :: xs => x :: mkz0 m xs
  | _, _ => []
def ixT : List Bool → Nat → List Nat
  | [], _ => []
  | true :: m, k => k :: ixT m (k + 1)
  | false :: m, k => ixT m (k + 1)
def ixF : List Bool → Nat → List Nat
  | [], _ => []
  | true :: m, k => ixF m (k + 1)
  | false :: m, k => k :: ixF m (k + 1)
theorem ixT_map : ∀ (m : List Bool) (ws pre : va_W), m.length = ws.length → (ixT m pre.length).map (fun i => (pre ++ ws)[i]?) = (mk1 m ws).map some := by
  intro m
  induction m with
  | nil => intro ws pre h; cases ws <;> rfl
  | cons b m ih =>
    intro ws pre h
    cases ws with
    | nil => simp at h
    | cons x xs =>
      have h2 : m.length = xs.length := by simpa using h
      have h3 := ih xs (pre ++ [x]) h2
      have e : pre ++ [x] ++ xs = pre ++ x :: xs := by simp
      have el : (pre ++ [x]).length = pre.length + 1 := by simp
      rw [e, el] at h3
      cases b with
      | true =>
        show (pre ++ x :: xs)[pre.length]? :: (ixT m (pre.length + 1)).map _ = some x :: (mk1 m xs).map some
        rw [h3]
        congr 1
        simp
      | false => exact h3
theorem ixF_map : ∀ (m : List Bool) (ws pre : va_W), m.length = ws.length → (ixF m pre.length).map (fun i => (pre ++ ws)[i]?) = (mkz0 m ws).map some := by
  intro m
  induction m with
  | nil => intro ws pre h; cases ws <;> rfl
  | cons b m ih =>
    intro ws pre h
    cases ws with
    | nil => simp at h
    | cons x xs =>
      have h2 : m.length = xs.length := by simpa using h
      have h3 := ih xs (pre ++ [x]) h2
      have e : pre ++ [x] ++ xs = pre ++ x :: xs := by simp
      have el : (pre ++ [x]).length = pre.length + 1 := by simp
      rw [e, el] at h3
      cases b with
      | false =>
        show (pre ++ x :: xs)[pre.length]? :: (ixF m (pre.length + 1)).map _ = some x :: (mkz0 m xs).map some
        rw [h3]
        congr 1
        simp
      | true => exact h3
section CXM
variable {p : Program} {l : Launch} {e : Env} {R : Room} {s : State} {m : MethodId} {args : Array Value} {below : List Frame} {meth : Method} {c : Code} {H : Heap} {locs : List Loc} {cells slots : Nat} {Z : State → Prop} {tS tT : Nat} {cI cJ cZ cO : ClassId} {D : va_G} {A : Nat → Prop} {ws wc wr : va_W}
theorem mk_C {mask : List Bool} (hl : ws.length = mask.length) (h1 : mk1 mask ws = wc) : (ixT mask 0).map (fun i => ws[i]?) = wc.map some := by
  have h := ixT_map mask ws [] hl.symm
  rw [h1] at h
  exact h
theorem mk_R {mask : List Bool} (hl : ws.length = mask.length) (h1 : mkz0 mask ws = wr) : (ixF mask 0).map (fun i => ws[i]?) = wr.map some := by
  have h := ixF_map mask ws [] hl.symm
  rw [h1] at h
  exact h
theorem mk_preV {C : String} {b : Nat} {As : List Value} (mask : List Bool) (hn : va_nd (ixT mask 0) = true) (hl : ws.length = mask.length) (h1 : mk1 mask ws = wc) (hE : cx_E tS tT A s s.heap) (hK : va_K D vwCl (cx_T cI cJ cZ cO) s) (hP : va_P D vwCl ws H) (hD : va_D A ws) (hS : va_S A s.heap H locs) (hA : ∀ q, s.heap.size ≤ q → A q) (hr : ∃ cell : Cell, H[b]? = some cell ∧ cell.vm.isStatics = false ∧ s.vm.findClass C = some cell.cls) : PreV s H C b (va_Pc (.ref b :: As) (cx_B tS tT cI cJ cZ cO D H.size wc)) As :=
  cx_preV hE hK hP hD hS hA (ixT mask 0) (mk_C hl h1) hn hr
theorem mk_goi {S : Type} {post : Int32 → S → Prop} {w1 : S → va_W} {a : Array Value} {pc : Nat} {ls : Array Slot} {st0 rest : List Value}
    (hr : va_Run p l e R s m args below meth c H locs cells slots 0 0 (F0 m pc ls st0) rest (va_Qi post (fun u t => va_P D vwCl (w1 u) t.heap) (va_A wc H.size) a) (va_A wc H.size))
    (ws' : S → va_W) (mask : List Bool) {ads : List Nat} (hl : ws.length = mask.length) (hl' : ∀ u, (ws' u).length = mask.length) (h1 : mk1 mask ws = wc) (h1' : ∀ u, mk1 mask (ws' u) = w1 u) (h2 : mkz0 mask ws = wr) (h2' : ∀ u, mkz0 mask (ws' u) = wr) (had0 : wc.map Prod.fst = ads) (had : ∀ u, (w1 u).map Prod.fst = ads) (hcov : (List.range mask.length).all (fun k => (ixT mask 0).contains k || (ixF mask 0).contains k) = true)
    (hP : va_P D vwCl ws H) (hD : va_D A ws) (hS : va_S A s.heap H locs) (hA : ∀ q, s.heap.size ≤ q → A q)
    (kk : ∀ (r : Int32) (u : S) (H1 : Heap) (locs1 : List Loc), post r u → va_P D vwCl (ws' u) H1 → va_D A (ws' u) → va_S A s.heap H1 locs1 → W p l e R s m args below meth c H1 locs1 cells slots Z (F0 m (pc + 3) ls (.int r :: rest))) : W p l e R s m args below meth c H locs cells slots Z (F0 m pc ls st0) :=
  cx_goi hr ws' (ixT mask 0) (ixF mask 0) (mk_C hl h1) had0 had (fun u => mk_C (hl' u) (h1' u)) (mk_R hl h2) (fun u => mk_R (hl' u) (h2' u)) hl hl' hcov hP hD hS hA kk
theorem mk_gov {S : Type} {post : S → Prop} {w1 : S → va_W} {a : Array Value} {pc : Nat} {ls : Array Slot} {st0 rest : List Value}
    (hr : va_Run p l e R s m args below meth c H locs cells slots 0 0 (F0 m pc ls st0) rest (va_Qv post (fun u t => va_P D vwCl (w1 u) t.heap) (va_A wc H.size) a) (va_A wc H.size))
    (ws' : S → va_W) (mask : List Bool) {ads : List Nat} (hl : ws.length = mask.length) (hl' : ∀ u, (ws' u).length = mask.length) (h1 : mk1 mask ws = wc) (h1' : ∀ u, mk1 mask (ws' u) = w1 u) (h2 : mkz0 mask ws = wr) (h2' : ∀ u, mkz0 mask (ws' u) = wr) (had0 : wc.map Prod.fst = ads) (had : ∀ u, (w1 u).map Prod.fst = ads) (hcov : (List.range mask.length).all (fun k => (ixT mask 0).contains k || (ixF mask 0).contains k) = true)
    (hP : va_P D vwCl ws H) (hD : va_D A ws) (hS : va_S A s.heap H locs) (hA : ∀ q, s.heap.size ≤ q → A q)
    (kk : ∀ (u : S) (H1 : Heap) (locs1 : List Loc), post u → va_P D vwCl (ws' u) H1 → va_D A (ws' u) → va_S A s.heap H1 locs1 → W p l e R s m args below meth c H1 locs1 cells slots Z (F0 m (pc + 3) ls rest)) : W p l e R s m args below meth c H locs cells slots Z (F0 m pc ls st0) :=
  cx_gov hr ws' (ixT mask 0) (ixF mask 0) (mk_C hl h1) had0 had (fun u => mk_C (hl' u) (h1' u)) (mk_R hl h2) (fun u => mk_R (hl' u) (h2' u)) hl hl' hcov hP hD hS hA kk
end CXM

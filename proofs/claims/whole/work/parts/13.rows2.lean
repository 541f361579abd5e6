/-! calls with many cells: the new world is given, and held against the old one place by place -/
def ms_ix : List Nat → Nat → Nat → Option Nat
  | [], _, _ => none
  | i :: is, k, j => bif Nat.beq i k then some j else ms_ix is k (j + 1)
theorem ms_ix_none : ∀ (is : List Nat) (k j : Nat), ms_ix is k j = none → k ∉ is
  | [], k, j, _ => by simp
  | i :: is, k, j, h => by
    unfold ms_ix at h
    cases hb : Nat.beq i k with
    | true => rw [hb] at h; cases h
    | false =>
      rw [hb] at h
      have h1 := ms_ix_none is k (j + 1) h
      have h2 : i ≠ k := Nat.ne_of_beq_eq_false hb
      simp only [List.mem_cons, not_or]
      exact ⟨fun e => h2 e.symm, h1⟩
theorem ms_ix_some : ∀ (is : List Nat) (k j r : Nat), ms_ix is k j = some r → ∃ d, r = j + d ∧ is[d]? = some k
  | [], k, j, r, h => by cases h
  | i :: is, k, j, r, h => by
    unfold ms_ix at h
    cases hb : Nat.beq i k with
    | true =>
      rw [hb] at h
      have h2 : i = k := Nat.eq_of_beq_eq_true hb
      exact ⟨0, (Option.some.inj h).symm, by rw [h2]; rfl⟩
    | false =>
      rw [hb] at h
      obtain ⟨d, h1, h2⟩ := ms_ix_some is k (j + 1) r h
      exact ⟨d + 1, by omega, by rw [List.getElem?_cons_succ]; exact h2⟩
def ms_pick (ws : va_W) (is : List Nat) (w' : va_W) (k : Nat) : Option (Nat × va_E) := match ms_ix is k 0 with
  | some j => w'[j]?
  | none => ws[k]?
def ms_news (ws : va_W) (is : List Nat) (w' : va_W) : Nat → Nat → List (Option (Nat × va_E))
  | 0, _ => []
  | n + 1, k => ms_pick ws is w' k :: ms_news ws is w' n (k + 1)
theorem ms_news_at {ws : va_W} {is : List Nat} {w' : va_W} : ∀ (n k j : Nat), j < n → (ms_news ws is w' n k)[j]? = some (ms_pick ws is w' (k + j))
  | 0, k, j, h => absurd h (by omega)
  | n + 1, k, 0, _ => rfl
  | n + 1, k, j + 1, h => by
    have h1 := ms_news_at (ws := ws) (is := is) (w' := w') n (k + 1) j (by omega)
    rw [show k + 1 + j = k + (j + 1) by omega] at h1
    exact h1
theorem ms_news_len {ws : va_W} {is : List Nat} {w' : va_W} : ∀ (n k : Nat), (ms_news ws is w' n k).length = n
  | 0, _ => rfl
  | n + 1, k => by rw [ms_news, List.length_cons, ms_news_len]
theorem ms_upd_eq {ws ws' : va_W} {is : List Nat} {w' : va_W} {n : Nat} (hlen : ws.length = n) (hn : va_nd is = true) (hin : ∀ (j i : Nat), is[j]? = some i → i < ws.length) (hu : ws'.map some = ms_news ws is w' n 0) : ws' = ms_upd ws is w' := by
  apply List.ext_getElem?
  intro k
  by_cases hk : k < n
  · have h1 : (ws'.map some)[k]? = some (ms_pick ws is w' (0 + k)) := by rw [hu]; exact ms_news_at n 0 k hk
    rw [List.getElem?_map, Nat.zero_add] at h1
    cases hw : ws'[k]? with
    | none => rw [hw] at h1; cases h1
    | some q =>
      rw [hw] at h1
      have h2 : some q = ms_pick ws is w' k := Option.some.inj h1
      unfold ms_pick at h2
      cases hx : ms_ix is k 0 with
      | none =>
        rw [hx] at h2
        rw [ms_upd_out ws is w' k (ms_ix_none is k 0 hx)]
        exact h2
      | some j =>
        rw [hx] at h2
        obtain ⟨d, h3, h4⟩ := ms_ix_some is k 0 j hx
        rw [Nat.zero_add] at h3
        subst h3
        exact (ms_upd_at ws is w' hn j k q h4 h2.symm (hin j k h4)).symm
  · have h1 : ws'.length = n := by
      have := congrArg List.length hu
      rw [List.length_map, ms_news_len] at this
      exact this
    rw [List.getElem?_eq_none (by omega), List.getElem?_eq_none (by rw [ms_upd_len]; omega)]
section MS3
variable {p : Program} {l : Launch} {e : Env} {R : Room} {s : State} {m : MethodId} {args : Array Value} {below : List Frame} {meth : Method} {c : Code} {H : Heap} {locs : List Loc} {cells slots : Nat} {Q : State → Prop}
variable {cc : ByteArray} {nL pc : Nat} {own : String} {rt : Option FieldType} {G : Gc} {A : Nat → Prop} {ls : Array Slot} {rest : List Value} {ws : va_W} {a : Nat}
theorem ms_callV2 {y : MethodName} {bytes : ByteArray} {maxL : Nat} {r0 : Option FieldType} {rm : Room} {As : List Value} {w w' ws' : va_W} {r : Option Value} {st fs : List Value} {b index n ci nw : Nat} {C : String} {T : u_T} {N : Nat}
    (hF : ms_Fn l G y bytes maxL r0 rm (.ref b :: As) w w' r) (hw : ms_wM y bytes maxL r0 n) (hv : ms_wV own index C y) (hX : ms_CX p s m args meth c cc nL own rt G A) (hW : ms_W G A s H locs ws) (is : List Nat) (h1 : is.map (fun i => ws[i]?) = w.map some) (hn : va_nd is = true) (hadr : w'.map Prod.fst = w.map Prod.fst)
    (hlenw : ws.length = nw) (hu : ws'.map some = ms_news ws is w' nw 0)
    (hrec : w[0]? = some (b, .inr (ci, fs))) (hcl : vwCl[ci]? = some (C, T, N)) (hR : rm.frames + 1 ≤ R.frames ∧ 8 + (maxL + 11) + rm.locals ≤ R.locals ∧ rm.cells = 0 ∧ rm.slots = 0 ∧ cells ≤ R.cells ∧ slots ≤ R.slots) (hlen : As.length = n) (hl : ls.size = nL) (rest : List Value) (hst : st = As.reverse ++ .ref b :: rest) (hsum : (rest.map fun v => v.category).sum ≤ 8) (hdg : decode cc pc = .ok (.invokevirtual index, 3))
    (kk : ∀ (H1 : Heap) (locs1 : List Loc), ms_W G A s H1 locs1 ws' → W p l e R s m args below meth c H1 locs1 cells slots Q (F0 m (pc + 3) ls (r.toList ++ rest))) : W p l e R s m args below meth c H locs cells slots Q (F0 m pc ls st) := by
  refine ms_callV hF hw hv hX hW is h1 hn hadr hrec hcl hR hlen hl rest hst hsum hdg (fun H1 locs1 h => kk H1 locs1 ?_)
  rw [ms_upd_eq hlenw hn (fun j i hj => ?_) hu]
  · exact h
  · obtain ⟨q, -, h3⟩ := ms_map_at' h1 hj
    exact (List.getElem?_eq_some_iff.mp h3).1
end MS3

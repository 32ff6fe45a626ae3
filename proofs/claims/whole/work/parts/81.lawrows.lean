section GKL
variable {p : Program} {l : Launch} {e : Env} {R : Room} {s : State} {m : MethodId} {args : Array Value} {below : List Frame} {meth : Method} {c : Code} {Y : gk_S} {Γ : gk_G} {nL : Nat} {Q : State → Prop} {k n : Nat} {M : gk_M} {pc : Nat} {L : List (Option Value)} {st : List Value} {cc : ByteArray} {own : String} {b ln : Nat} {xs : Nat → Int32}
theorem Gk_sload (B : gk_B p s m args meth c Y Γ cc nL own) (hX : va_X b ln xs s s.heap) (hb : b < s.heap.size) (hlo : Γ.2.2 = s.heap.size) {i x : Int32} (d : decode cc pc = .ok (.iaload, 1)) (h : gk_sc xs ln i = some x) (kk : Gk p l e R s m args below meth c Y Γ nL Q k n M (pc + 1) L (.int x :: st)) : Gk p l e R s m args below meth c Y Γ nL Q k n M pc L (.int i :: va_rf (some b) :: st) := by
  obtain ⟨hin, h1⟩ := gk_if h
  cases h1
  exact fun H locs ls hm hS hl => va_sld B.1 B.2.1 hX hb (fun q => by omega) hS hin d (kk H locs ls hm hS hl)
theorem Gk_slen (B : gk_B p s m args meth c Y Γ cc nL own) (hX : va_X b ln xs s s.heap) (hb : b < s.heap.size) (hlo : Γ.2.2 = s.heap.size) (d : decode cc pc = .ok (.arraylength, 1)) (kk : Gk p l e R s m args below meth c Y Γ nL Q k n M (pc + 1) L (.int (nI ln) :: st)) : Gk p l e R s m args below meth c Y Γ nL Q k n M pc L (va_rf (some b) :: st) := fun H locs ls hm hS hl => va_slen B.1 B.2.1 hX hb (fun q => by omega) hS d (kk H locs ls hm hS hl)
theorem Gk_lret (B : gk_B p s m #[Value.ref b] meth c Y Γ code nL own) (hr : meth.sig.returnType = ret) (hlo : Γ.2.2 = s.heap.size) (d : decode code pc = .ok (.ireturn, 1)) (hk : k ≤ 600000) (hn : n ≤ 7302250) : Gk p l e room_1 s m #[Value.ref b] below meth c Y Γ nL (lw_Z below #[Value.ref b] s) k n M pc L [.int 1] := fun H locs ls hm hS hl => va_forget (fun q hq => by rw [← hlo]; exact hS.2.2 q hq) (W.widen hk hn (lw_ret B.1 B.2.1 hr B.2.2.2.2.2.2.1 d))
end GKL
theorem gk_loop_soundN {α β : Type} {P : Nat → α → Prop} {y : β} {body : (α → Option β) → α → Option β} (hb : ∀ (n : Nat) (kk : α → Option β) (a : α), (∀ a', kk a' = some y → P n a') → body kk a = some y → P (n + 1) a) : ∀ (n : Nat) (a : α), gk_loop body n a = some y → P n a
  | 0, _, h => by cases h
  | n + 1, a, h => hb n (gk_loop body n) a (fun a' h' => gk_loop_soundN hb n a' h') h


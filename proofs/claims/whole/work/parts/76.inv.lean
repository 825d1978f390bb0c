/-! new cells leave the layout -/
theorem SBT_n {M M' : Mem} (h : SBT M) (e : ∀ a : Int, a < 100 → M'.2.1 a = M.2.1 a) (f : ∀ a : Int, a < 100 → ∀ k, M'.1 a k = M.1 a k) : SBT M' := ⟨(e 0 (by decide)).trans h.1, (e 7 (by decide)).trans h.2.1, (f 0 (by decide) 0).trans h.2.2.1, (f 0 (by decide) 1).trans h.2.2.2.1, (f 0 (by decide) 2).trans h.2.2.2.2.1, (f 0 (by decide) 3).trans h.2.2.2.2.2.1, (f 0 (by decide) 4).trans h.2.2.2.2.2.2.1, (f 0 (by decide) 5).trans h.2.2.2.2.2.2.2.1, (f 0 (by decide) 6).trans h.2.2.2.2.2.2.2.2⟩
theorem SBS_n {M M' : Mem} (h : SBS M) (e : ∀ a : Int, a < 100 → M'.2.1 a = M.2.1 a) (f : ∀ a : Int, a < 100 → ∀ k, M'.1 a k = M.1 a k) : SBS M' := ⟨(e 1 (by decide)).trans h.1, (e 2 (by decide)).trans h.2.1, (f 1 (by decide) 0).trans h.2.2⟩
theorem SBR_n {M M' : Mem} (h : SBR M) (e : ∀ a : Int, a < 100 → M'.2.1 a = M.2.1 a) (f : ∀ a : Int, a < 100 → ∀ k, M'.1 a k = M.1 a k) : SBR M' := ⟨(e 3 (by decide)).trans h.1, (e 4 (by decide)).trans h.2.1, (e 5 (by decide)).trans h.2.2.1, (e 6 (by decide)).trans h.2.2.2.1, (f 3 (by decide) 0).trans h.2.2.2.2.1, (f 3 (by decide) 1).trans h.2.2.2.2.2.1, (f 3 (by decide) 2).trans h.2.2.2.2.2.2.1, (f 3 (by decide) 3).trans h.2.2.2.2.2.2.2⟩
theorem SBN_n {M M' : Mem} (h : SBN M) (e : ∀ a : Int, a < 100 → M'.2.1 a = M.2.1 a) (f : ∀ a : Int, a < 100 → ∀ k, M'.1 a k = M.1 a k) : SBN M' := ⟨(e 8 (by decide)).trans h.1, (e 9 (by decide)).trans h.2.1, (f 8 (by decide) 0).trans h.2.2.1, (f 8 (by decide) 1).trans h.2.2.2⟩
theorem SBD_n {M M' : Mem} (h : SBD M) (e : ∀ a : Int, a < 100 → M'.2.1 a = M.2.1 a) (f : ∀ a : Int, a < 100 → ∀ k, M'.1 a k = M.1 a k) : SBD M' := ⟨(e 10 (by decide)).trans h.1, (e 11 (by decide)).trans h.2.1, (e 12 (by decide)).trans h.2.2.1, (e 13 (by decide)).trans h.2.2.2.1, (e 14 (by decide)).trans h.2.2.2.2.1, (e 15 (by decide)).trans h.2.2.2.2.2.1, (e 16 (by decide)).trans h.2.2.2.2.2.2.1, (e 17 (by decide)).trans h.2.2.2.2.2.2.2.1, (e 18 (by decide)).trans h.2.2.2.2.2.2.2.2.1, (e 19 (by decide)).trans h.2.2.2.2.2.2.2.2.2.1, (e 20 (by decide)).trans h.2.2.2.2.2.2.2.2.2.2.1, (e 21 (by decide)).trans h.2.2.2.2.2.2.2.2.2.2.2.1, (e 22 (by decide)).trans h.2.2.2.2.2.2.2.2.2.2.2.2.1, (e 23 (by decide)).trans h.2.2.2.2.2.2.2.2.2.2.2.2.2.1, (e 24 (by decide)).trans h.2.2.2.2.2.2.2.2.2.2.2.2.2.2.1, (e 25 (by decide)).trans h.2.2.2.2.2.2.2.2.2.2.2.2.2.2.2.1, (e 26 (by decide)).trans h.2.2.2.2.2.2.2.2.2.2.2.2.2.2.2.2.1, (e 27 (by decide)).trans h.2.2.2.2.2.2.2.2.2.2.2.2.2.2.2.2.2.1, (e 28 (by decide)).trans h.2.2.2.2.2.2.2.2.2.2.2.2.2.2.2.2.2.2.1, (e 29 (by decide)).trans h.2.2.2.2.2.2.2.2.2.2.2.2.2.2.2.2.2.2.2.1, (e 30 (by decide)).trans h.2.2.2.2.2.2.2.2.2.2.2.2.2.2.2.2.2.2.2.2.1, (e 31 (by decide)).trans h.2.2.2.2.2.2.2.2.2.2.2.2.2.2.2.2.2.2.2.2.2.1, (e 32 (by decide)).trans h.2.2.2.2.2.2.2.2.2.2.2.2.2.2.2.2.2.2.2.2.2.2.1, (e 33 (by decide)).trans h.2.2.2.2.2.2.2.2.2.2.2.2.2.2.2.2.2.2.2.2.2.2.2.1, (e 34 (by decide)).trans h.2.2.2.2.2.2.2.2.2.2.2.2.2.2.2.2.2.2.2.2.2.2.2.2.1, (e 35 (by decide)).trans h.2.2.2.2.2.2.2.2.2.2.2.2.2.2.2.2.2.2.2.2.2.2.2.2.2.1, (e 36 (by decide)).trans h.2.2.2.2.2.2.2.2.2.2.2.2.2.2.2.2.2.2.2.2.2.2.2.2.2.2.1, (e 37 (by decide)).trans h.2.2.2.2.2.2.2.2.2.2.2.2.2.2.2.2.2.2.2.2.2.2.2.2.2.2.2.1, (e 38 (by decide)).trans h.2.2.2.2.2.2.2.2.2.2.2.2.2.2.2.2.2.2.2.2.2.2.2.2.2.2.2.2.1, (e 39 (by decide)).trans h.2.2.2.2.2.2.2.2.2.2.2.2.2.2.2.2.2.2.2.2.2.2.2.2.2.2.2.2.2.1, (e 40 (by decide)).trans h.2.2.2.2.2.2.2.2.2.2.2.2.2.2.2.2.2.2.2.2.2.2.2.2.2.2.2.2.2.2.1, (e 41 (by decide)).trans h.2.2.2.2.2.2.2.2.2.2.2.2.2.2.2.2.2.2.2.2.2.2.2.2.2.2.2.2.2.2.2.1, (e 42 (by decide)).trans h.2.2.2.2.2.2.2.2.2.2.2.2.2.2.2.2.2.2.2.2.2.2.2.2.2.2.2.2.2.2.2.2.1, (e 43 (by decide)).trans h.2.2.2.2.2.2.2.2.2.2.2.2.2.2.2.2.2.2.2.2.2.2.2.2.2.2.2.2.2.2.2.2.2.1, (e 44 (by decide)).trans h.2.2.2.2.2.2.2.2.2.2.2.2.2.2.2.2.2.2.2.2.2.2.2.2.2.2.2.2.2.2.2.2.2.2.1, (e 45 (by decide)).trans h.2.2.2.2.2.2.2.2.2.2.2.2.2.2.2.2.2.2.2.2.2.2.2.2.2.2.2.2.2.2.2.2.2.2.2.1, (e 46 (by decide)).trans h.2.2.2.2.2.2.2.2.2.2.2.2.2.2.2.2.2.2.2.2.2.2.2.2.2.2.2.2.2.2.2.2.2.2.2.2.1, (e 47 (by decide)).trans h.2.2.2.2.2.2.2.2.2.2.2.2.2.2.2.2.2.2.2.2.2.2.2.2.2.2.2.2.2.2.2.2.2.2.2.2.2.1, (e 48 (by decide)).trans h.2.2.2.2.2.2.2.2.2.2.2.2.2.2.2.2.2.2.2.2.2.2.2.2.2.2.2.2.2.2.2.2.2.2.2.2.2.2.1, (e 49 (by decide)).trans h.2.2.2.2.2.2.2.2.2.2.2.2.2.2.2.2.2.2.2.2.2.2.2.2.2.2.2.2.2.2.2.2.2.2.2.2.2.2.2.1, (f 10 (by decide) 0).trans h.2.2.2.2.2.2.2.2.2.2.2.2.2.2.2.2.2.2.2.2.2.2.2.2.2.2.2.2.2.2.2.2.2.2.2.2.2.2.2.2.1, (f 10 (by decide) 1).trans h.2.2.2.2.2.2.2.2.2.2.2.2.2.2.2.2.2.2.2.2.2.2.2.2.2.2.2.2.2.2.2.2.2.2.2.2.2.2.2.2.2.1, (f 10 (by decide) 2).trans h.2.2.2.2.2.2.2.2.2.2.2.2.2.2.2.2.2.2.2.2.2.2.2.2.2.2.2.2.2.2.2.2.2.2.2.2.2.2.2.2.2.2.1, (f 10 (by decide) 3).trans h.2.2.2.2.2.2.2.2.2.2.2.2.2.2.2.2.2.2.2.2.2.2.2.2.2.2.2.2.2.2.2.2.2.2.2.2.2.2.2.2.2.2.2.1, (f 10 (by decide) 4).trans h.2.2.2.2.2.2.2.2.2.2.2.2.2.2.2.2.2.2.2.2.2.2.2.2.2.2.2.2.2.2.2.2.2.2.2.2.2.2.2.2.2.2.2.2.1, (f 10 (by decide) 5).trans h.2.2.2.2.2.2.2.2.2.2.2.2.2.2.2.2.2.2.2.2.2.2.2.2.2.2.2.2.2.2.2.2.2.2.2.2.2.2.2.2.2.2.2.2.2.1, (f 10 (by decide) 7).trans h.2.2.2.2.2.2.2.2.2.2.2.2.2.2.2.2.2.2.2.2.2.2.2.2.2.2.2.2.2.2.2.2.2.2.2.2.2.2.2.2.2.2.2.2.2.2.1, (f 10 (by decide) 8).trans h.2.2.2.2.2.2.2.2.2.2.2.2.2.2.2.2.2.2.2.2.2.2.2.2.2.2.2.2.2.2.2.2.2.2.2.2.2.2.2.2.2.2.2.2.2.2.2.1, (f 10 (by decide) 9).trans h.2.2.2.2.2.2.2.2.2.2.2.2.2.2.2.2.2.2.2.2.2.2.2.2.2.2.2.2.2.2.2.2.2.2.2.2.2.2.2.2.2.2.2.2.2.2.2.2.1, (f 10 (by decide) 12).trans h.2.2.2.2.2.2.2.2.2.2.2.2.2.2.2.2.2.2.2.2.2.2.2.2.2.2.2.2.2.2.2.2.2.2.2.2.2.2.2.2.2.2.2.2.2.2.2.2.2.1, (f 10 (by decide) 13).trans h.2.2.2.2.2.2.2.2.2.2.2.2.2.2.2.2.2.2.2.2.2.2.2.2.2.2.2.2.2.2.2.2.2.2.2.2.2.2.2.2.2.2.2.2.2.2.2.2.2.2.1, (f 10 (by decide) 15).trans h.2.2.2.2.2.2.2.2.2.2.2.2.2.2.2.2.2.2.2.2.2.2.2.2.2.2.2.2.2.2.2.2.2.2.2.2.2.2.2.2.2.2.2.2.2.2.2.2.2.2.2.1, (f 10 (by decide) 16).trans h.2.2.2.2.2.2.2.2.2.2.2.2.2.2.2.2.2.2.2.2.2.2.2.2.2.2.2.2.2.2.2.2.2.2.2.2.2.2.2.2.2.2.2.2.2.2.2.2.2.2.2.2.1, (f 18 (by decide) 0).trans h.2.2.2.2.2.2.2.2.2.2.2.2.2.2.2.2.2.2.2.2.2.2.2.2.2.2.2.2.2.2.2.2.2.2.2.2.2.2.2.2.2.2.2.2.2.2.2.2.2.2.2.2.2.1, (f 18 (by decide) 1).trans h.2.2.2.2.2.2.2.2.2.2.2.2.2.2.2.2.2.2.2.2.2.2.2.2.2.2.2.2.2.2.2.2.2.2.2.2.2.2.2.2.2.2.2.2.2.2.2.2.2.2.2.2.2.2.1, (f 18 (by decide) 2).trans h.2.2.2.2.2.2.2.2.2.2.2.2.2.2.2.2.2.2.2.2.2.2.2.2.2.2.2.2.2.2.2.2.2.2.2.2.2.2.2.2.2.2.2.2.2.2.2.2.2.2.2.2.2.2.2.1, (f 18 (by decide) 3).trans h.2.2.2.2.2.2.2.2.2.2.2.2.2.2.2.2.2.2.2.2.2.2.2.2.2.2.2.2.2.2.2.2.2.2.2.2.2.2.2.2.2.2.2.2.2.2.2.2.2.2.2.2.2.2.2.2.1, (f 18 (by decide) 4).trans h.2.2.2.2.2.2.2.2.2.2.2.2.2.2.2.2.2.2.2.2.2.2.2.2.2.2.2.2.2.2.2.2.2.2.2.2.2.2.2.2.2.2.2.2.2.2.2.2.2.2.2.2.2.2.2.2.2.1, (f 18 (by decide) 5).trans h.2.2.2.2.2.2.2.2.2.2.2.2.2.2.2.2.2.2.2.2.2.2.2.2.2.2.2.2.2.2.2.2.2.2.2.2.2.2.2.2.2.2.2.2.2.2.2.2.2.2.2.2.2.2.2.2.2.2.1, (f 18 (by decide) 6).trans h.2.2.2.2.2.2.2.2.2.2.2.2.2.2.2.2.2.2.2.2.2.2.2.2.2.2.2.2.2.2.2.2.2.2.2.2.2.2.2.2.2.2.2.2.2.2.2.2.2.2.2.2.2.2.2.2.2.2.2.1, (f 18 (by decide) 7).trans h.2.2.2.2.2.2.2.2.2.2.2.2.2.2.2.2.2.2.2.2.2.2.2.2.2.2.2.2.2.2.2.2.2.2.2.2.2.2.2.2.2.2.2.2.2.2.2.2.2.2.2.2.2.2.2.2.2.2.2.2.1, (f 20 (by decide) 0).trans h.2.2.2.2.2.2.2.2.2.2.2.2.2.2.2.2.2.2.2.2.2.2.2.2.2.2.2.2.2.2.2.2.2.2.2.2.2.2.2.2.2.2.2.2.2.2.2.2.2.2.2.2.2.2.2.2.2.2.2.2.2.1, (f 20 (by decide) 1).trans h.2.2.2.2.2.2.2.2.2.2.2.2.2.2.2.2.2.2.2.2.2.2.2.2.2.2.2.2.2.2.2.2.2.2.2.2.2.2.2.2.2.2.2.2.2.2.2.2.2.2.2.2.2.2.2.2.2.2.2.2.2.2.1, (f 23 (by decide) 0).trans h.2.2.2.2.2.2.2.2.2.2.2.2.2.2.2.2.2.2.2.2.2.2.2.2.2.2.2.2.2.2.2.2.2.2.2.2.2.2.2.2.2.2.2.2.2.2.2.2.2.2.2.2.2.2.2.2.2.2.2.2.2.2.2.1, (f 23 (by decide) 1).trans h.2.2.2.2.2.2.2.2.2.2.2.2.2.2.2.2.2.2.2.2.2.2.2.2.2.2.2.2.2.2.2.2.2.2.2.2.2.2.2.2.2.2.2.2.2.2.2.2.2.2.2.2.2.2.2.2.2.2.2.2.2.2.2.2.1, (f 26 (by decide) 0).trans h.2.2.2.2.2.2.2.2.2.2.2.2.2.2.2.2.2.2.2.2.2.2.2.2.2.2.2.2.2.2.2.2.2.2.2.2.2.2.2.2.2.2.2.2.2.2.2.2.2.2.2.2.2.2.2.2.2.2.2.2.2.2.2.2.2.1, (f 26 (by decide) 1).trans h.2.2.2.2.2.2.2.2.2.2.2.2.2.2.2.2.2.2.2.2.2.2.2.2.2.2.2.2.2.2.2.2.2.2.2.2.2.2.2.2.2.2.2.2.2.2.2.2.2.2.2.2.2.2.2.2.2.2.2.2.2.2.2.2.2.2.1, (f 29 (by decide) 0).trans h.2.2.2.2.2.2.2.2.2.2.2.2.2.2.2.2.2.2.2.2.2.2.2.2.2.2.2.2.2.2.2.2.2.2.2.2.2.2.2.2.2.2.2.2.2.2.2.2.2.2.2.2.2.2.2.2.2.2.2.2.2.2.2.2.2.2.2.1, (f 29 (by decide) 1).trans h.2.2.2.2.2.2.2.2.2.2.2.2.2.2.2.2.2.2.2.2.2.2.2.2.2.2.2.2.2.2.2.2.2.2.2.2.2.2.2.2.2.2.2.2.2.2.2.2.2.2.2.2.2.2.2.2.2.2.2.2.2.2.2.2.2.2.2.2.1, (f 32 (by decide) 0).trans h.2.2.2.2.2.2.2.2.2.2.2.2.2.2.2.2.2.2.2.2.2.2.2.2.2.2.2.2.2.2.2.2.2.2.2.2.2.2.2.2.2.2.2.2.2.2.2.2.2.2.2.2.2.2.2.2.2.2.2.2.2.2.2.2.2.2.2.2.2.1, (f 32 (by decide) 1).trans h.2.2.2.2.2.2.2.2.2.2.2.2.2.2.2.2.2.2.2.2.2.2.2.2.2.2.2.2.2.2.2.2.2.2.2.2.2.2.2.2.2.2.2.2.2.2.2.2.2.2.2.2.2.2.2.2.2.2.2.2.2.2.2.2.2.2.2.2.2.2.1, (f 35 (by decide) 0).trans h.2.2.2.2.2.2.2.2.2.2.2.2.2.2.2.2.2.2.2.2.2.2.2.2.2.2.2.2.2.2.2.2.2.2.2.2.2.2.2.2.2.2.2.2.2.2.2.2.2.2.2.2.2.2.2.2.2.2.2.2.2.2.2.2.2.2.2.2.2.2.2.1, (f 35 (by decide) 1).trans h.2.2.2.2.2.2.2.2.2.2.2.2.2.2.2.2.2.2.2.2.2.2.2.2.2.2.2.2.2.2.2.2.2.2.2.2.2.2.2.2.2.2.2.2.2.2.2.2.2.2.2.2.2.2.2.2.2.2.2.2.2.2.2.2.2.2.2.2.2.2.2.2.1, (f 38 (by decide) 0).trans h.2.2.2.2.2.2.2.2.2.2.2.2.2.2.2.2.2.2.2.2.2.2.2.2.2.2.2.2.2.2.2.2.2.2.2.2.2.2.2.2.2.2.2.2.2.2.2.2.2.2.2.2.2.2.2.2.2.2.2.2.2.2.2.2.2.2.2.2.2.2.2.2.2.1, (f 38 (by decide) 1).trans h.2.2.2.2.2.2.2.2.2.2.2.2.2.2.2.2.2.2.2.2.2.2.2.2.2.2.2.2.2.2.2.2.2.2.2.2.2.2.2.2.2.2.2.2.2.2.2.2.2.2.2.2.2.2.2.2.2.2.2.2.2.2.2.2.2.2.2.2.2.2.2.2.2.2.1, (f 41 (by decide) 0).trans h.2.2.2.2.2.2.2.2.2.2.2.2.2.2.2.2.2.2.2.2.2.2.2.2.2.2.2.2.2.2.2.2.2.2.2.2.2.2.2.2.2.2.2.2.2.2.2.2.2.2.2.2.2.2.2.2.2.2.2.2.2.2.2.2.2.2.2.2.2.2.2.2.2.2.2.1, (f 41 (by decide) 1).trans h.2.2.2.2.2.2.2.2.2.2.2.2.2.2.2.2.2.2.2.2.2.2.2.2.2.2.2.2.2.2.2.2.2.2.2.2.2.2.2.2.2.2.2.2.2.2.2.2.2.2.2.2.2.2.2.2.2.2.2.2.2.2.2.2.2.2.2.2.2.2.2.2.2.2.2.2.1, (f 44 (by decide) 0).trans h.2.2.2.2.2.2.2.2.2.2.2.2.2.2.2.2.2.2.2.2.2.2.2.2.2.2.2.2.2.2.2.2.2.2.2.2.2.2.2.2.2.2.2.2.2.2.2.2.2.2.2.2.2.2.2.2.2.2.2.2.2.2.2.2.2.2.2.2.2.2.2.2.2.2.2.2.2.1, (f 44 (by decide) 1).trans h.2.2.2.2.2.2.2.2.2.2.2.2.2.2.2.2.2.2.2.2.2.2.2.2.2.2.2.2.2.2.2.2.2.2.2.2.2.2.2.2.2.2.2.2.2.2.2.2.2.2.2.2.2.2.2.2.2.2.2.2.2.2.2.2.2.2.2.2.2.2.2.2.2.2.2.2.2.2.1, (f 47 (by decide) 0).trans h.2.2.2.2.2.2.2.2.2.2.2.2.2.2.2.2.2.2.2.2.2.2.2.2.2.2.2.2.2.2.2.2.2.2.2.2.2.2.2.2.2.2.2.2.2.2.2.2.2.2.2.2.2.2.2.2.2.2.2.2.2.2.2.2.2.2.2.2.2.2.2.2.2.2.2.2.2.2.2.1, (f 47 (by decide) 1).trans h.2.2.2.2.2.2.2.2.2.2.2.2.2.2.2.2.2.2.2.2.2.2.2.2.2.2.2.2.2.2.2.2.2.2.2.2.2.2.2.2.2.2.2.2.2.2.2.2.2.2.2.2.2.2.2.2.2.2.2.2.2.2.2.2.2.2.2.2.2.2.2.2.2.2.2.2.2.2.2.2⟩
theorem SBP_n {M M' : Mem} (h : SBP M) (e : ∀ a : Int, a < 100 → M'.2.1 a = M.2.1 a) (f : ∀ a : Int, a < 100 → ∀ k, M'.1 a k = M.1 a k) : SBP M' := ⟨(e 50 (by decide)).trans h.1, (e 51 (by decide)).trans h.2.1, (e 52 (by decide)).trans h.2.2.1, (e 53 (by decide)).trans h.2.2.2.1, (e 54 (by decide)).trans h.2.2.2.2.1, (e 55 (by decide)).trans h.2.2.2.2.2.1, (e 56 (by decide)).trans h.2.2.2.2.2.2.1, (e 57 (by decide)).trans h.2.2.2.2.2.2.2.1, (e 58 (by decide)).trans h.2.2.2.2.2.2.2.2.1, (e 59 (by decide)).trans h.2.2.2.2.2.2.2.2.2.1, (f 50 (by decide) 0).trans h.2.2.2.2.2.2.2.2.2.2.1, (f 50 (by decide) 1).trans h.2.2.2.2.2.2.2.2.2.2.2.1, (f 50 (by decide) 2).trans h.2.2.2.2.2.2.2.2.2.2.2.2.1, (f 50 (by decide) 3).trans h.2.2.2.2.2.2.2.2.2.2.2.2.2.1, (f 50 (by decide) 4).trans h.2.2.2.2.2.2.2.2.2.2.2.2.2.2.1, (f 50 (by decide) 5).trans h.2.2.2.2.2.2.2.2.2.2.2.2.2.2.2.1, (f 50 (by decide) 6).trans h.2.2.2.2.2.2.2.2.2.2.2.2.2.2.2.2.1, (f 50 (by decide) 7).trans h.2.2.2.2.2.2.2.2.2.2.2.2.2.2.2.2.2.1, (f 50 (by decide) 8).trans h.2.2.2.2.2.2.2.2.2.2.2.2.2.2.2.2.2.2.1, (f 50 (by decide) 9).trans h.2.2.2.2.2.2.2.2.2.2.2.2.2.2.2.2.2.2.2⟩
theorem SBC_n {M M' : Mem} (h : SBC M) (e : ∀ a : Int, a < 100 → M'.2.1 a = M.2.1 a) (f : ∀ a : Int, a < 100 → ∀ k, M'.1 a k = M.1 a k) : SBC M' := ⟨(e 60 (by decide)).trans h.1, (e 61 (by decide)).trans h.2.1, (f 60 (by decide) 0).trans h.2.2.1, (f 60 (by decide) 1).trans h.2.2.2.1, (f 60 (by decide) 2).trans h.2.2.2.2⟩
theorem SBM_n {M M' : Mem} (h : SBM M) (e : ∀ a : Int, a < 100 → M'.2.1 a = M.2.1 a) (f : ∀ a : Int, a < 100 → ∀ k, M'.1 a k = M.1 a k) : SBM M' := ⟨(e 62 (by decide)).trans h.1, (e 63 (by decide)).trans h.2.1, (e 64 (by decide)).trans h.2.2.1, (e 65 (by decide)).trans h.2.2.2.1, (e 66 (by decide)).trans h.2.2.2.2.1, (e 67 (by decide)).trans h.2.2.2.2.2.1, (e 68 (by decide)).trans h.2.2.2.2.2.2.1, (e 69 (by decide)).trans h.2.2.2.2.2.2.2.1, (e 70 (by decide)).trans h.2.2.2.2.2.2.2.2.1, (e 71 (by decide)).trans h.2.2.2.2.2.2.2.2.2.1, (e 72 (by decide)).trans h.2.2.2.2.2.2.2.2.2.2.1, (e 73 (by decide)).trans h.2.2.2.2.2.2.2.2.2.2.2.1, (e 74 (by decide)).trans h.2.2.2.2.2.2.2.2.2.2.2.2.1, (e 75 (by decide)).trans h.2.2.2.2.2.2.2.2.2.2.2.2.2.1, (e 76 (by decide)).trans h.2.2.2.2.2.2.2.2.2.2.2.2.2.2.1, (e 77 (by decide)).trans h.2.2.2.2.2.2.2.2.2.2.2.2.2.2.2.1, (e 78 (by decide)).trans h.2.2.2.2.2.2.2.2.2.2.2.2.2.2.2.2.1, (e 79 (by decide)).trans h.2.2.2.2.2.2.2.2.2.2.2.2.2.2.2.2.2.1, (e 80 (by decide)).trans h.2.2.2.2.2.2.2.2.2.2.2.2.2.2.2.2.2.2.1, (e 81 (by decide)).trans h.2.2.2.2.2.2.2.2.2.2.2.2.2.2.2.2.2.2.2.1, (e 82 (by decide)).trans h.2.2.2.2.2.2.2.2.2.2.2.2.2.2.2.2.2.2.2.2.1, (e 83 (by decide)).trans h.2.2.2.2.2.2.2.2.2.2.2.2.2.2.2.2.2.2.2.2.2.1, (e 84 (by decide)).trans h.2.2.2.2.2.2.2.2.2.2.2.2.2.2.2.2.2.2.2.2.2.2.1, (e 85 (by decide)).trans h.2.2.2.2.2.2.2.2.2.2.2.2.2.2.2.2.2.2.2.2.2.2.2.1, (e 86 (by decide)).trans h.2.2.2.2.2.2.2.2.2.2.2.2.2.2.2.2.2.2.2.2.2.2.2.2.1, (e 87 (by decide)).trans h.2.2.2.2.2.2.2.2.2.2.2.2.2.2.2.2.2.2.2.2.2.2.2.2.2.1, (e 88 (by decide)).trans h.2.2.2.2.2.2.2.2.2.2.2.2.2.2.2.2.2.2.2.2.2.2.2.2.2.2.1, (e 89 (by decide)).trans h.2.2.2.2.2.2.2.2.2.2.2.2.2.2.2.2.2.2.2.2.2.2.2.2.2.2.2.1, (e 90 (by decide)).trans h.2.2.2.2.2.2.2.2.2.2.2.2.2.2.2.2.2.2.2.2.2.2.2.2.2.2.2.2.1, (e 91 (by decide)).trans h.2.2.2.2.2.2.2.2.2.2.2.2.2.2.2.2.2.2.2.2.2.2.2.2.2.2.2.2.2.1, (e 92 (by decide)).trans h.2.2.2.2.2.2.2.2.2.2.2.2.2.2.2.2.2.2.2.2.2.2.2.2.2.2.2.2.2.2.1, (e 93 (by decide)).trans h.2.2.2.2.2.2.2.2.2.2.2.2.2.2.2.2.2.2.2.2.2.2.2.2.2.2.2.2.2.2.2.1, (e 94 (by decide)).trans h.2.2.2.2.2.2.2.2.2.2.2.2.2.2.2.2.2.2.2.2.2.2.2.2.2.2.2.2.2.2.2.2.1, (e 95 (by decide)).trans h.2.2.2.2.2.2.2.2.2.2.2.2.2.2.2.2.2.2.2.2.2.2.2.2.2.2.2.2.2.2.2.2.2.1, (e 96 (by decide)).trans h.2.2.2.2.2.2.2.2.2.2.2.2.2.2.2.2.2.2.2.2.2.2.2.2.2.2.2.2.2.2.2.2.2.2.1, (e 97 (by decide)).trans h.2.2.2.2.2.2.2.2.2.2.2.2.2.2.2.2.2.2.2.2.2.2.2.2.2.2.2.2.2.2.2.2.2.2.2.1, (e 98 (by decide)).trans h.2.2.2.2.2.2.2.2.2.2.2.2.2.2.2.2.2.2.2.2.2.2.2.2.2.2.2.2.2.2.2.2.2.2.2.2.1, (e 99 (by decide)).trans h.2.2.2.2.2.2.2.2.2.2.2.2.2.2.2.2.2.2.2.2.2.2.2.2.2.2.2.2.2.2.2.2.2.2.2.2.2.1, (f 62 (by decide) 1).trans h.2.2.2.2.2.2.2.2.2.2.2.2.2.2.2.2.2.2.2.2.2.2.2.2.2.2.2.2.2.2.2.2.2.2.2.2.2.2.1, (f 62 (by decide) 2).trans h.2.2.2.2.2.2.2.2.2.2.2.2.2.2.2.2.2.2.2.2.2.2.2.2.2.2.2.2.2.2.2.2.2.2.2.2.2.2.2.1, (f 62 (by decide) 5).trans h.2.2.2.2.2.2.2.2.2.2.2.2.2.2.2.2.2.2.2.2.2.2.2.2.2.2.2.2.2.2.2.2.2.2.2.2.2.2.2.2.1, (f 62 (by decide) 6).trans h.2.2.2.2.2.2.2.2.2.2.2.2.2.2.2.2.2.2.2.2.2.2.2.2.2.2.2.2.2.2.2.2.2.2.2.2.2.2.2.2.2.1, (f 62 (by decide) 7).trans h.2.2.2.2.2.2.2.2.2.2.2.2.2.2.2.2.2.2.2.2.2.2.2.2.2.2.2.2.2.2.2.2.2.2.2.2.2.2.2.2.2.2.1, (f 62 (by decide) 8).trans h.2.2.2.2.2.2.2.2.2.2.2.2.2.2.2.2.2.2.2.2.2.2.2.2.2.2.2.2.2.2.2.2.2.2.2.2.2.2.2.2.2.2.2.1, (f 62 (by decide) 9).trans h.2.2.2.2.2.2.2.2.2.2.2.2.2.2.2.2.2.2.2.2.2.2.2.2.2.2.2.2.2.2.2.2.2.2.2.2.2.2.2.2.2.2.2.2.1, (f 62 (by decide) 10).trans h.2.2.2.2.2.2.2.2.2.2.2.2.2.2.2.2.2.2.2.2.2.2.2.2.2.2.2.2.2.2.2.2.2.2.2.2.2.2.2.2.2.2.2.2.2.1, (f 62 (by decide) 11).trans h.2.2.2.2.2.2.2.2.2.2.2.2.2.2.2.2.2.2.2.2.2.2.2.2.2.2.2.2.2.2.2.2.2.2.2.2.2.2.2.2.2.2.2.2.2.2.1, (f 62 (by decide) 12).trans h.2.2.2.2.2.2.2.2.2.2.2.2.2.2.2.2.2.2.2.2.2.2.2.2.2.2.2.2.2.2.2.2.2.2.2.2.2.2.2.2.2.2.2.2.2.2.2.1, (f 62 (by decide) 13).trans h.2.2.2.2.2.2.2.2.2.2.2.2.2.2.2.2.2.2.2.2.2.2.2.2.2.2.2.2.2.2.2.2.2.2.2.2.2.2.2.2.2.2.2.2.2.2.2.2.1, (f 62 (by decide) 14).trans h.2.2.2.2.2.2.2.2.2.2.2.2.2.2.2.2.2.2.2.2.2.2.2.2.2.2.2.2.2.2.2.2.2.2.2.2.2.2.2.2.2.2.2.2.2.2.2.2.2.1, (f 62 (by decide) 15).trans h.2.2.2.2.2.2.2.2.2.2.2.2.2.2.2.2.2.2.2.2.2.2.2.2.2.2.2.2.2.2.2.2.2.2.2.2.2.2.2.2.2.2.2.2.2.2.2.2.2.2.1, (f 62 (by decide) 16).trans h.2.2.2.2.2.2.2.2.2.2.2.2.2.2.2.2.2.2.2.2.2.2.2.2.2.2.2.2.2.2.2.2.2.2.2.2.2.2.2.2.2.2.2.2.2.2.2.2.2.2.2.1, (f 62 (by decide) 17).trans h.2.2.2.2.2.2.2.2.2.2.2.2.2.2.2.2.2.2.2.2.2.2.2.2.2.2.2.2.2.2.2.2.2.2.2.2.2.2.2.2.2.2.2.2.2.2.2.2.2.2.2.2.1, (f 62 (by decide) 18).trans h.2.2.2.2.2.2.2.2.2.2.2.2.2.2.2.2.2.2.2.2.2.2.2.2.2.2.2.2.2.2.2.2.2.2.2.2.2.2.2.2.2.2.2.2.2.2.2.2.2.2.2.2.2.1, (f 62 (by decide) 19).trans h.2.2.2.2.2.2.2.2.2.2.2.2.2.2.2.2.2.2.2.2.2.2.2.2.2.2.2.2.2.2.2.2.2.2.2.2.2.2.2.2.2.2.2.2.2.2.2.2.2.2.2.2.2.2.1, (f 62 (by decide) 27).trans h.2.2.2.2.2.2.2.2.2.2.2.2.2.2.2.2.2.2.2.2.2.2.2.2.2.2.2.2.2.2.2.2.2.2.2.2.2.2.2.2.2.2.2.2.2.2.2.2.2.2.2.2.2.2.2.1, (f 62 (by decide) 28).trans h.2.2.2.2.2.2.2.2.2.2.2.2.2.2.2.2.2.2.2.2.2.2.2.2.2.2.2.2.2.2.2.2.2.2.2.2.2.2.2.2.2.2.2.2.2.2.2.2.2.2.2.2.2.2.2.2.1, (f 62 (by decide) 29).trans h.2.2.2.2.2.2.2.2.2.2.2.2.2.2.2.2.2.2.2.2.2.2.2.2.2.2.2.2.2.2.2.2.2.2.2.2.2.2.2.2.2.2.2.2.2.2.2.2.2.2.2.2.2.2.2.2.2.1, (f 62 (by decide) 30).trans h.2.2.2.2.2.2.2.2.2.2.2.2.2.2.2.2.2.2.2.2.2.2.2.2.2.2.2.2.2.2.2.2.2.2.2.2.2.2.2.2.2.2.2.2.2.2.2.2.2.2.2.2.2.2.2.2.2.2.1, (f 62 (by decide) 31).trans h.2.2.2.2.2.2.2.2.2.2.2.2.2.2.2.2.2.2.2.2.2.2.2.2.2.2.2.2.2.2.2.2.2.2.2.2.2.2.2.2.2.2.2.2.2.2.2.2.2.2.2.2.2.2.2.2.2.2.2.1, (f 62 (by decide) 32).trans h.2.2.2.2.2.2.2.2.2.2.2.2.2.2.2.2.2.2.2.2.2.2.2.2.2.2.2.2.2.2.2.2.2.2.2.2.2.2.2.2.2.2.2.2.2.2.2.2.2.2.2.2.2.2.2.2.2.2.2.2.1, (f 62 (by decide) 33).trans h.2.2.2.2.2.2.2.2.2.2.2.2.2.2.2.2.2.2.2.2.2.2.2.2.2.2.2.2.2.2.2.2.2.2.2.2.2.2.2.2.2.2.2.2.2.2.2.2.2.2.2.2.2.2.2.2.2.2.2.2.2.1, (f 62 (by decide) 39).trans h.2.2.2.2.2.2.2.2.2.2.2.2.2.2.2.2.2.2.2.2.2.2.2.2.2.2.2.2.2.2.2.2.2.2.2.2.2.2.2.2.2.2.2.2.2.2.2.2.2.2.2.2.2.2.2.2.2.2.2.2.2.2.1, (f 62 (by decide) 40).trans h.2.2.2.2.2.2.2.2.2.2.2.2.2.2.2.2.2.2.2.2.2.2.2.2.2.2.2.2.2.2.2.2.2.2.2.2.2.2.2.2.2.2.2.2.2.2.2.2.2.2.2.2.2.2.2.2.2.2.2.2.2.2.2.1, (f 62 (by decide) 41).trans h.2.2.2.2.2.2.2.2.2.2.2.2.2.2.2.2.2.2.2.2.2.2.2.2.2.2.2.2.2.2.2.2.2.2.2.2.2.2.2.2.2.2.2.2.2.2.2.2.2.2.2.2.2.2.2.2.2.2.2.2.2.2.2.2.1, (f 62 (by decide) 42).trans h.2.2.2.2.2.2.2.2.2.2.2.2.2.2.2.2.2.2.2.2.2.2.2.2.2.2.2.2.2.2.2.2.2.2.2.2.2.2.2.2.2.2.2.2.2.2.2.2.2.2.2.2.2.2.2.2.2.2.2.2.2.2.2.2.2.1, (f 62 (by decide) 43).trans h.2.2.2.2.2.2.2.2.2.2.2.2.2.2.2.2.2.2.2.2.2.2.2.2.2.2.2.2.2.2.2.2.2.2.2.2.2.2.2.2.2.2.2.2.2.2.2.2.2.2.2.2.2.2.2.2.2.2.2.2.2.2.2.2.2.2.1, (f 62 (by decide) 44).trans h.2.2.2.2.2.2.2.2.2.2.2.2.2.2.2.2.2.2.2.2.2.2.2.2.2.2.2.2.2.2.2.2.2.2.2.2.2.2.2.2.2.2.2.2.2.2.2.2.2.2.2.2.2.2.2.2.2.2.2.2.2.2.2.2.2.2.2.1, (f 62 (by decide) 45).trans h.2.2.2.2.2.2.2.2.2.2.2.2.2.2.2.2.2.2.2.2.2.2.2.2.2.2.2.2.2.2.2.2.2.2.2.2.2.2.2.2.2.2.2.2.2.2.2.2.2.2.2.2.2.2.2.2.2.2.2.2.2.2.2.2.2.2.2.2.1, (f 62 (by decide) 46).trans h.2.2.2.2.2.2.2.2.2.2.2.2.2.2.2.2.2.2.2.2.2.2.2.2.2.2.2.2.2.2.2.2.2.2.2.2.2.2.2.2.2.2.2.2.2.2.2.2.2.2.2.2.2.2.2.2.2.2.2.2.2.2.2.2.2.2.2.2.2.1, (f 62 (by decide) 47).trans h.2.2.2.2.2.2.2.2.2.2.2.2.2.2.2.2.2.2.2.2.2.2.2.2.2.2.2.2.2.2.2.2.2.2.2.2.2.2.2.2.2.2.2.2.2.2.2.2.2.2.2.2.2.2.2.2.2.2.2.2.2.2.2.2.2.2.2.2.2.2.1, (f 62 (by decide) 48).trans h.2.2.2.2.2.2.2.2.2.2.2.2.2.2.2.2.2.2.2.2.2.2.2.2.2.2.2.2.2.2.2.2.2.2.2.2.2.2.2.2.2.2.2.2.2.2.2.2.2.2.2.2.2.2.2.2.2.2.2.2.2.2.2.2.2.2.2.2.2.2.2.1, (f 62 (by decide) 49).trans h.2.2.2.2.2.2.2.2.2.2.2.2.2.2.2.2.2.2.2.2.2.2.2.2.2.2.2.2.2.2.2.2.2.2.2.2.2.2.2.2.2.2.2.2.2.2.2.2.2.2.2.2.2.2.2.2.2.2.2.2.2.2.2.2.2.2.2.2.2.2.2.2.1, (f 62 (by decide) 50).trans h.2.2.2.2.2.2.2.2.2.2.2.2.2.2.2.2.2.2.2.2.2.2.2.2.2.2.2.2.2.2.2.2.2.2.2.2.2.2.2.2.2.2.2.2.2.2.2.2.2.2.2.2.2.2.2.2.2.2.2.2.2.2.2.2.2.2.2.2.2.2.2.2.2.1, (f 62 (by decide) 51).trans h.2.2.2.2.2.2.2.2.2.2.2.2.2.2.2.2.2.2.2.2.2.2.2.2.2.2.2.2.2.2.2.2.2.2.2.2.2.2.2.2.2.2.2.2.2.2.2.2.2.2.2.2.2.2.2.2.2.2.2.2.2.2.2.2.2.2.2.2.2.2.2.2.2.2⟩
theorem SB_al {M M' : Mem} (h : SB M) (e : ∀ a : Int, a < 100 → M'.2.1 a = M.2.1 a) (f : ∀ a : Int, a < 100 → M'.1 a = M.1 a) : SB M' := by
  have g : ∀ a : Int, a < 100 → ∀ k, M'.1 a k = M.1 a k := fun a q k => by rw [f a q]
  exact ⟨SBT_n h.t_ e g, SBS_n h.s_ e g, SBR_n h.r_ e g, SBN_n h.n_ e g, SBD_n h.d_ e g, SBP_n h.p_ e g, SBC_n h.c_ e g, SBM_n h.m_ e g⟩
/-! counting -/
def sumN : Nat → (Int → Int) → Int
  | 0, _ => 0
  | k + 1, f => sumN k f + f k
def cf (n : Int) (rk : Int → Int) (m : Mch) (t : Int → Int → Int) (z c : Int) : Int := sumN n.toNat (fun s => if rk s = 0 then (if z = 1 ∧ mT m s 0 0 = c then 1 else 0) else if rk s = 1 then sumN (mN m).toNat (fun x => if mT m s x 0 = c then t (z - 1) x else 0) else sumN (mN m).toNat (fun x => sumN (mN m).toNat (fun y => if mT m s x y = c then sumN (z - 2).toNat (fun i => t (i + 1) x * t (z - 2 - i) y) else 0)))
def ctab (n : Int) (rk : Int → Int) (m : Mch) : Nat → Int → Int → Int
  | 0 => fun _ _ => 0
  | k + 1 => fun z c => if z = (k : Int) + 1 then cf n rk m (ctab n rk m k) z c else ctab n rk m k z c
/-- how many trees of a size a class has -/
def tC (n : Int) (rk : Int → Int) (m : Mch) (z c : Int) : Int := ctab n rk m 40 z c
def FAR : Int := 1000000000000000000
def sat (z : Int) : Int := if z < FAR then z else FAR
/-- the machine is numbered, and its counts, if it has them -/
def CV (M : Mem) (p : Int) : Prop := Num (M.1 1 1) (rkC M) (mch M p) ∧ (M.1 p 13 = 0 ∨ (M.1 p 13 = 1 ∧ ∀ z c, 0 ≤ z → z ≤ 40 → 0 ≤ c → c < M.1 p 10 → M.1 (p + 6) (z * 6 + c) = sat (tC (M.1 1 1) (rkC M) (mch M p) z c)))
/-! a tongue, on both sides -/
abbrev CanT (M : Mem) (k : Int) (m : Mch) : Prop := Can (M.1 1 1) (rkC M) (rX M (nx0 M k)) (fun z => fn0 M k z = 1) m
abbrev LgT (M : Mem) (k : Int) : Prop := LgX M (nx0 M k) (fn0 M k)
def MK (M : Mem) (p k : Int) : Prop := (M.1 p 12 = 1 ∧ ∀ m, mN m ≤ 6 → ¬ CanT M k m) ∨ (M.1 p 12 = 0 ∧ MOK M p ∧ CV M p ∧ ¬ LgT M k ∧ ∀ m, CanT M k m → Eqm (M.1 1 1) (rkC M) (mch M p) m)
def TG (M : Mem) (k : Int) : Prop := (M.1 65 k = 1 ∧ M.1 (100 + 12 * k) 6 = 1 ∧ TOK M (100 + 12 * k) ∧ RV M k ∧ M.1 66 k = M.1 (100 + 12 * k) 3 ∧ M.1 67 k = M.1 (100 + 12 * k) 5 ∧ M.1 68 k = M.1 (100 + 12 * k) 4 ∧ TR M M (100 + 12 * k) k ∧ (M.1 (100 + 12 * k) 7 = 1 ∨ (M.1 (100 + 12 * k) 7 = 0 ∧ MK M (102 + 12 * k) k))) ∨ (M.1 65 k = 0 ∧ M.1 (100 + 12 * k) 6 = 0 ∧ M.1 (100 + 12 * k) 7 = 0 ∧ M.1 (102 + 12 * k) 12 = 0 ∧ MOK M (102 + 12 * k) ∧ CV M (102 + 12 * k) ∧ Eqm (M.1 1 1) (rkC M) (mch M (102 + 12 * k)) (mchR M k))
/-- all that a tongue hangs on is the same -/
def SameT (k : Int) (M M' : Mem) : Prop := (∀ a, 100 + 12 * k ≤ a → a ≤ 111 + 12 * k → M'.1 a = M.1 a ∧ M'.2.1 a = M.2.1 a) ∧ M'.1 1 1 = M.1 1 1 ∧ rkC M' = rkC M ∧ (∀ a, 65 ≤ a → a ≤ 68 → M'.1 a k = M.1 a k) ∧ (∀ a i, 69 ≤ a → a ≤ 72 → 0 ≤ i → i < 40 → M'.1 a (40 * k + i) = M.1 a (40 * k + i)) ∧ M'.1 73 k = M.1 73 k ∧ (∀ j, 0 ≤ j → j < 216 → M'.1 74 (216 * k + j) = M.1 74 (216 * k + j)) ∧ ∀ a c, 75 ≤ a → a ≤ 79 → 0 ≤ c → c < 6 → M'.1 a (6 * k + c) = M.1 a (6 * k + c)
theorem sumN_c {f g : Int → Int} : ∀ {k : Nat}, (∀ i : Int, 0 ≤ i → i < k → f i = g i) → sumN k f = sumN k g := by
  intro k
  induction k with
  | zero => intro _; rfl
  | succ k ih =>
    intro h
    show sumN k f + f k = sumN k g + g k
    rw [ih (fun i a b => h i a (by omega)), h k (by omega) (by omega)]
theorem mch_c {M M' : Mem} {p : Int} (ek : rkC M' = rkC M) (h : ∀ a, p ≤ a → a ≤ p + 5 → M'.1 a = M.1 a) : mch M' p = mch M p := by
  unfold mch
  rw [ek, h p (by omega) (by omega), h (p + 1) (by omega) (by omega), h (p + 2) (by omega) (by omega), h (p + 3) (by omega) (by omega), h (p + 4) (by omega) (by omega), h (p + 5) (by omega) (by omega)]
theorem MOK.c {M M' : Mem} {p : Int} (q : MOK M p) (en : M'.1 1 1 = M.1 1 1) (ek : rkC M' = rkC M) (h : ∀ a, p ≤ a → a ≤ p + 9 → M'.1 a = M.1 a ∧ M'.2.1 a = M.2.1 a) : MOK M' p := by
  obtain ⟨hMS, hp, hW, hf⟩ := q
  refine ⟨?_, hp, ?_, ?_⟩
  · unfold MS
    rw [(h p (by omega) (by omega)).1, (h p (by omega) (by omega)).2, (h (p + 1) (by omega) (by omega)).2, (h (p + 2) (by omega) (by omega)).2, (h (p + 3) (by omega) (by omega)).2, (h (p + 4) (by omega) (by omega)).2, (h (p + 5) (by omega) (by omega)).2, (h (p + 6) (by omega) (by omega)).2, (h (p + 7) (by omega) (by omega)).2, (h (p + 8) (by omega) (by omega)).2, (h (p + 9) (by omega) (by omega)).2]
    exact hMS
  · rw [en, ek, mch_c ek (fun a a0 a1 => (h a a0 (by omega)).1)]
    exact hW
  · rw [(h p (by omega) (by omega)).1]
    exact hf
theorem CV.c {M M' : Mem} {p : Int} (q : CV M p) (en : M'.1 1 1 = M.1 1 1) (ek : rkC M' = rkC M) (h : ∀ a, p ≤ a → a ≤ p + 9 → M'.1 a = M.1 a) : CV M' p := by
  unfold CV
  rw [en, ek, mch_c ek (fun a a0 a1 => h a a0 (by omega)), h p (by omega) (by omega), h (p + 6) (by omega) (by omega)]
  exact q
theorem nx0_c {M M' : Mem} {k : Int} (ek : rkC M' = rkC M) (e68 : M'.1 68 k = M.1 68 k) (r : M.1 68 k ≤ 40) (h : ∀ a i, 69 ≤ a → a ≤ 72 → 0 ≤ i → i < 40 → M'.1 a (40 * k + i) = M.1 a (40 * k + i)) : nx0 M' k = nx0 M k := by
  funext s x y
  unfold nx0
  congr 1
  funext q
  rw [e68]
  refine propext ⟨fun ⟨i, hi, w⟩ => ⟨i, hi, ?_⟩, fun ⟨i, hi, w⟩ => ⟨i, hi, ?_⟩⟩
  · unfold Vr at w ⊢
    rw [ek, h 69 i (by decide) (by decide) hi.1 (by omega), h 70 i (by decide) (by decide) hi.1 (by omega), h 71 i (by decide) (by decide) hi.1 (by omega), h 72 i (by decide) (by decide) hi.1 (by omega)] at w
    exact w
  · unfold Vr at w ⊢
    rw [ek, h 69 i (by decide) (by decide) hi.1 (by omega), h 70 i (by decide) (by decide) hi.1 (by omega), h 71 i (by decide) (by decide) hi.1 (by omega), h 72 i (by decide) (by decide) hi.1 (by omega)]
    exact w
theorem Eqm.cr {n : Int} {rk : Int → Int} {m : Mch} {M M' : Mem} {k : Int} (h : Eqm n rk m (mchR M k)) (n6 : n ≤ 6) (k6 : mN m ≤ 6) (e73 : M'.1 73 k = M.1 73 k) (e74 : ∀ j, 0 ≤ j → j < 216 → M'.1 74 (216 * k + j) = M.1 74 (216 * k + j)) (e75 : ∀ a c, 75 ≤ a → a ≤ 79 → 0 ≤ c → c < 6 → M'.1 a (6 * k + c) = M.1 a (6 * k + c)) : Eqm n rk m (mchR M' k) := by
  refine ⟨?_, fun c c0 c1 => ?_, fun s x y s0 s1 hA => ?_⟩
  · rw [h.1]; exact e73.symm
  · have w := h.2.1 c c0 c1
    refine ⟨?_, ?_, ?_, ?_, ?_⟩
    · rw [w.1]; exact (e75 76 c (by decide) (by decide) c0 (by omega)).symm
    · rw [w.2.1]; exact (e75 77 c (by decide) (by decide) c0 (by omega)).symm
    · rw [w.2.2.1]; exact (e75 78 c (by decide) (by decide) c0 (by omega)).symm
    · rw [w.2.2.2.1]; exact (e75 79 c (by decide) (by decide) c0 (by omega)).symm
    · rw [w.2.2.2.2]
      show M.1 75 (6 * k + c) = 1 ↔ M'.1 75 (6 * k + c) = 1
      rw [e75 75 c (by decide) (by decide) c0 (by omega)]
  · rw [h.2.2 s x y s0 s1 hA]
    have b := hA.b6 k6
    exact (e74 _ (by omega) (by omega)).symm
theorem RV.c {M M' : Mem} {k : Int} (q : RV M k) (en : M'.1 1 1 = M.1 1 1) (ek : rkC M' = rkC M) (h1 : ∀ a, 65 ≤ a → a ≤ 68 → M'.1 a k = M.1 a k) (h2 : ∀ a i, 69 ≤ a → a ≤ 72 → 0 ≤ i → i < 40 → M'.1 a (40 * k + i) = M.1 a (40 * k + i)) : RV M' k := by
  obtain ⟨q1, q2, q3, q4, q5⟩ := q
  unfold RV
  rw [en, ek, h1 66 (by decide) (by decide), h1 67 (by decide) (by decide), h1 68 (by decide) (by decide)]
  refine ⟨q1, q2, q3, q4, fun i i0 i1 => ?_⟩
  rw [h2 69 i (by decide) (by decide) i0 (by omega), h2 70 i (by decide) (by decide) i0 (by omega), h2 71 i (by decide) (by decide) i0 (by omega), h2 72 i (by decide) (by decide) i0 (by omega)]
  exact q5 i i0 i1
theorem MK.c {M M' : Mem} {p k : Int} (q : MK M p k) (en : M'.1 1 1 = M.1 1 1) (ek : rkC M' = rkC M) (h : ∀ a, p ≤ a → a ≤ p + 9 → M'.1 a = M.1 a ∧ M'.2.1 a = M.2.1 a) (e0 : nx0 M' k = nx0 M k) (ef : M'.1 67 k = M.1 67 k) : MK M' p k := by
  have er : rX M' (nx0 M' k) = rX M (nx0 M k) := by
    rw [e0]
    unfold rX
    rw [ek]
  have e1 : fn0 M' k = fn0 M k := by
    funext z
    unfold fn0
    rw [ef]
  have ec : ∀ m, CanT M' k m = CanT M k m := fun m => by
    unfold CanT
    rw [en, ek, er, e1]
  have el : LgT M' k = LgT M k := by
    unfold LgT LgX
    rw [en, ek, er, e1]
  rcases q with ⟨a1, a2⟩ | ⟨a1, a2, a3, a4, a5⟩
  · left
    refine ⟨by rw [(h p (by omega) (by omega)).1]; exact a1, fun m hm => ?_⟩
    rw [ec]; exact a2 m hm
  · right
    refine ⟨by rw [(h p (by omega) (by omega)).1]; exact a1, a2.c en ek h, a3.c en ek (fun a a0 a1 => (h a a0 a1).1), by rw [el]; exact a4, fun m hm => ?_⟩
    rw [ec] at hm
    rw [en, ek, mch_c ek (fun a a0 a1 => (h a a0 (by omega)).1)]
    exact a5 m hm
theorem TG.c {k : Int} {M M' : Mem} (h : SameT k M M') (hg : M.1 1 1 ≤ 6) (q : TG M k) : TG M' k := by
  obtain ⟨hs, en, ek, h65, h69, h73, h74, h75⟩ := h
  have ht : M'.1 (100 + 12 * k) = M.1 (100 + 12 * k) := (hs _ (by omega) (by omega)).1
  have ht1 : M'.1 (100 + 12 * k + 1) = M.1 (100 + 12 * k + 1) := (hs _ (by omega) (by omega)).1
  have hp : ∀ a, 102 + 12 * k ≤ a → a ≤ 102 + 12 * k + 9 → M'.1 a = M.1 a ∧ M'.2.1 a = M.2.1 a := fun a a0 a1 => hs a (by omega) (by omega)
  rcases q with ⟨a1, a2, a3, a4, a5, a6, a7, a8, a9⟩ | ⟨a1, a2, a3, a4, a5, a6, a7⟩
  · left
    have esd : SD M' (100 + 12 * k) = SD M (100 + 12 * k) := by
      funext s x y
      unfold SD
      rw [ek, ht1]
    refine ⟨by rw [h65 65 (by decide) (by decide)]; exact a1, by rw [ht]; exact a2, ?_, a4.c en ek h65 h69, by rw [h65 66 (by decide) (by decide), ht]; exact a5, by rw [h65 67 (by decide) (by decide), ht]; exact a6, by rw [h65 68 (by decide) (by decide), ht]; exact a7, ?_, ?_⟩
    · unfold TOK TS at a3 ⊢
      rw [ht, ht1, (hs (100 + 12 * k) (by omega) (by omega)).2, (hs (100 + 12 * k + 1) (by omega) (by omega)).2]
      exact a3
    · have r40 := a4.2.1.2
      unfold TR at a8 ⊢
      rw [en, ek, ht, esd, h65 68 (by decide) (by decide)]
      intro s x y q s0 s1 hA q0
      rw [a8 s x y q s0 s1 hA q0]
      constructor
      · intro ⟨i, hi, w⟩
        refine ⟨i, hi, ?_⟩
        rw [h69 69 i (by decide) (by decide) hi.1 (by omega), h69 70 i (by decide) (by decide) hi.1 (by omega), h69 71 i (by decide) (by decide) hi.1 (by omega), h69 72 i (by decide) (by decide) hi.1 (by omega)]
        exact w
      · intro ⟨i, hi, w⟩
        refine ⟨i, hi, ?_⟩
        rw [h69 69 i (by decide) (by decide) hi.1 (by omega), h69 70 i (by decide) (by decide) hi.1 (by omega), h69 71 i (by decide) (by decide) hi.1 (by omega), h69 72 i (by decide) (by decide) hi.1 (by omega)] at w
        exact w
    · rw [ht]
      rcases a9 with w | ⟨w1, w2⟩
      · exact Or.inl w
      · exact Or.inr ⟨w1, w2.c en ek hp (nx0_c ek (h65 68 (by decide) (by decide)) a4.2.1.2 h69) (h65 67 (by decide) (by decide))⟩
  · right
    refine ⟨by rw [h65 65 (by decide) (by decide)]; exact a1, by rw [ht]; exact a2, by rw [ht]; exact a3, by rw [(hp _ (by omega) (by omega)).1]; exact a4, a5.c en ek hp, a6.c en ek (fun a a0 a1 => (hp a a0 a1).1), ?_⟩
    rw [en, ek, mch_c ek (fun a a0 a1 => (hp a a0 (by omega)).1)]
    have k6 : mN (mch M (102 + 12 * k)) ≤ 6 := a5.2.2.1.1.2
    exact a7.cr hg k6 h73 h74 h75
/-! the invariant -/
def HP (M : Mem) : Prop := (M.1 1 2 = 0 ∨ M.1 1 2 = 1) ∧ (M.1 1 2 = 1 ↔ ∃ s, (0 ≤ s ∧ s < M.1 1 1) ∧ rkC M s = 2)
def RW (M : Mem) : Prop := (0 ≤ M.1 3 4 ∧ M.1 3 4 ≤ 120) ∧ M.1 62 3 = M.1 3 4 ∧ ∀ i, 0 ≤ i → i < M.1 3 4 → M.1 64 i = M.1 4 i ∧ 0 ≤ M.1 4 i ∧ M.1 4 i < M.1 1 1
def SL (M : Mem) (tc : Int) : Prop := ∃ sc : Int, tc ≤ sc ∧ sc ≤ 16 ∧ (M.2.2 : Int) = 100 + 12 * sc ∧ (∀ k, 0 ≤ k → k < sc → M.1 7 k = 100 + 12 * k ∧ TS M (100 + 12 * k) ∧ MS M (102 + 12 * k)) ∧ ∀ k, sc ≤ k → k < 16 → M.1 7 k = -1
def B65 (M : Mem) : Prop := ∀ k, 0 ≤ k → k < 16 → M.1 65 k = 0 ∨ M.1 65 k = 1
def SC (L : Nat) (xs : Int → Int) (M : Mem) : Prop := M.2.1 1000001 = (20, L) ∧ M.1 1000001 = xs
def IB (M : Mem) (tc : Int) : Prop := SB M ∧ SgE M ∧ HP M ∧ RW M ∧ (0 ≤ tc ∧ tc ≤ 16) ∧ SL M tc ∧ RB M ∧ Z0 M ∧ BA M ∧ B65 M ∧ ∀ k, 0 ≤ k → k < tc → TG M k
def Inv (L : Nat) (xs : Int → Int) (M : Mem) : Prop := ∃ tc, IB M tc ∧ M.1 0 7 = tc ∧ M.1 62 4 = tc ∧ SC L xs M
/-- one call on both sides -/
def Both (L : Nat) (xs : Int → Int) (f g : Mem → Option (Int × Mem)) (M : Mem) : Prop := ∃ r M1 M2, f M = some (r, M1) ∧ g M1 = some (r, M2) ∧ SC L xs M1 ∧ Inv L xs M2 ∧ SB M1

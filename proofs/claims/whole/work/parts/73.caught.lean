/-! what is caught in the law: a throw becomes a code -/
theorem zi_251_16 : zraw 251 16 = some (.iconst 1, 1) ∧ zin 128 1 = true ∧ 16 + 1 = 17 := by decide +kernel
theorem zi_251_17 : zraw 251 17 = some (.ireturn, 1) ∧ (zinf 251).2.2.2.1 = 1 := by decide +kernel
theorem zx_251_0 {K : List zF} {σ : zW} {ls : List (Option zV)} {s : List zV} : zThr true ((251, 9, ls, s) :: K) 0 σ = zRet true K (some (.inl 1)) σ := (zThr_catch K σ (f' := (251, 16, zst1 ls 5 none, [])) rfl).trans (yI_iconst zi_251_16 <| yI_ireturn zi_251_17)
theorem zi_251_20 : zraw 251 20 = some (.iconst 2, 1) ∧ zin 128 2 = true ∧ 20 + 1 = 21 := by decide +kernel
theorem zi_251_21 : zraw 251 21 = some (.ireturn, 1) ∧ (zinf 251).2.2.2.1 = 1 := by decide +kernel
theorem zx_251_1 {K : List zF} {σ : zW} {ls : List (Option zV)} {s : List zV} : zThr true ((251, 9, ls, s) :: K) 1 σ = zRet true K (some (.inl 2)) σ := (zThr_catch K σ (f' := (251, 20, zst1 ls 5 none, [])) rfl).trans (yI_iconst zi_251_20 <| yI_ireturn zi_251_21)
theorem zi_252_13 : zraw 252 13 = some (.iconst 1, 1) ∧ zin 128 1 = true ∧ 13 + 1 = 14 := by decide +kernel
theorem zi_252_14 : zraw 252 14 = some (.ireturn, 1) ∧ (zinf 252).2.2.2.1 = 1 := by decide +kernel
theorem zx_252_2 {K : List zF} {σ : zW} {ls : List (Option zV)} {s : List zV} : zThr true ((252, 7, ls, s) :: K) 2 σ = zRet true K (some (.inl 1)) σ := (zThr_catch K σ (f' := (252, 13, zst1 ls 3 none, [])) rfl).trans (yI_iconst zi_252_13 <| yI_ireturn zi_252_14)
theorem zi_252_16 : zraw 252 16 = some (.iconst 2, 1) ∧ zin 128 2 = true ∧ 16 + 1 = 17 := by decide +kernel
theorem zi_252_17 : zraw 252 17 = some (.ireturn, 1) ∧ (zinf 252).2.2.2.1 = 1 := by decide +kernel
theorem zx_252_1 {K : List zF} {σ : zW} {ls : List (Option zV)} {s : List zV} : zThr true ((252, 7, ls, s) :: K) 1 σ = zRet true K (some (.inl 2)) σ := (zThr_catch K σ (f' := (252, 16, zst1 ls 3 none, [])) rfl).trans (yI_iconst zi_252_16 <| yI_ireturn zi_252_17)
theorem zi_253_12 : zraw 253 12 = some (.iconst 1, 1) ∧ zin 128 1 = true ∧ 12 + 1 = 13 := by decide +kernel
theorem zi_253_13 : zraw 253 13 = some (.ireturn, 1) ∧ (zinf 253).2.2.2.1 = 1 := by decide +kernel
theorem zx_253_1 {K : List zF} {σ : zW} {ls : List (Option zV)} {s : List zV} : zThr true ((253, 6, ls, s) :: K) 1 σ = zRet true K (some (.inl 1)) σ := (zThr_catch K σ (f' := (253, 12, zst1 ls 2 none, [])) rfl).trans (yI_iconst zi_253_12 <| yI_ireturn zi_253_13)
theorem zi_254_12 : zraw 254 12 = some (.iconst 1, 1) ∧ zin 128 1 = true ∧ 12 + 1 = 13 := by decide +kernel
theorem zi_254_13 : zraw 254 13 = some (.ireturn, 1) ∧ (zinf 254).2.2.2.1 = 1 := by decide +kernel
theorem zx_254_1 {K : List zF} {σ : zW} {ls : List (Option zV)} {s : List zV} : zThr true ((254, 6, ls, s) :: K) 1 σ = zRet true K (some (.inl 1)) σ := (zThr_catch K σ (f' := (254, 12, zst1 ls 2 none, [])) rfl).trans (yI_iconst zi_254_12 <| yI_ireturn zi_254_13)
theorem zi_255_13 : zraw 255 13 = some (.iconst 1, 1) ∧ zin 128 1 = true ∧ 13 + 1 = 14 := by decide +kernel
theorem zi_255_14 : zraw 255 14 = some (.ireturn, 1) ∧ (zinf 255).2.2.2.1 = 1 := by decide +kernel
theorem zx_255_2 {K : List zF} {σ : zW} {ls : List (Option zV)} {s : List zV} : zThr true ((255, 7, ls, s) :: K) 2 σ = zRet true K (some (.inl 1)) σ := (zThr_catch K σ (f' := (255, 13, zst1 ls 3 none, [])) rfl).trans (yI_iconst zi_255_13 <| yI_ireturn zi_255_14)
theorem zi_256_15 : zraw 256 15 = some (.iconst 1, 1) ∧ zin 128 1 = true ∧ 15 + 1 = 16 := by decide +kernel
theorem zi_256_16 : zraw 256 16 = some (.ireturn, 1) ∧ (zinf 256).2.2.2.1 = 1 := by decide +kernel
theorem zx_256_2 {K : List zF} {σ : zW} {ls : List (Option zV)} {s : List zV} : zThr true ((256, 8, ls, s) :: K) 2 σ = zRet true K (some (.inl 1)) σ := (zThr_catch K σ (f' := (256, 15, zst1 ls 4 none, [])) rfl).trans (yI_iconst zi_256_15 <| yI_ireturn zi_256_16)
theorem zi_257_15 : zraw 257 15 = some (.iconst 1, 1) ∧ zin 128 1 = true ∧ 15 + 1 = 16 := by decide +kernel
theorem zi_257_16 : zraw 257 16 = some (.ireturn, 1) ∧ (zinf 257).2.2.2.1 = 1 := by decide +kernel
theorem zx_257_2 {K : List zF} {σ : zW} {ls : List (Option zV)} {s : List zV} : zThr true ((257, 8, ls, s) :: K) 2 σ = zRet true K (some (.inl 1)) σ := (zThr_catch K σ (f' := (257, 15, zst1 ls 4 none, [])) rfl).trans (yI_iconst zi_257_15 <| yI_ireturn zi_257_16)
theorem zi_258_17 : zraw 258 17 = some (.iconst 1, 1) ∧ zin 128 1 = true ∧ 17 + 1 = 18 := by decide +kernel
theorem zi_258_18 : zraw 258 18 = some (.ireturn, 1) ∧ (zinf 258).2.2.2.1 = 1 := by decide +kernel
theorem zx_258_2 {K : List zF} {σ : zW} {ls : List (Option zV)} {s : List zV} : zThr true ((258, 10, ls, s) :: K) 2 σ = zRet true K (some (.inl 1)) σ := (zThr_catch K σ (f' := (258, 17, zst1 ls 5 none, [])) rfl).trans (yI_iconst zi_258_17 <| yI_ireturn zi_258_18)
theorem zi_259_13 : zraw 259 13 = some (.iconst 1, 1) ∧ zin 128 1 = true ∧ 13 + 1 = 14 := by decide +kernel
theorem zi_259_14 : zraw 259 14 = some (.ireturn, 1) ∧ (zinf 259).2.2.2.1 = 1 := by decide +kernel
theorem zx_259_2 {K : List zF} {σ : zW} {ls : List (Option zV)} {s : List zV} : zThr true ((259, 7, ls, s) :: K) 2 σ = zRet true K (some (.inl 1)) σ := (zThr_catch K σ (f' := (259, 13, zst1 ls 3 none, [])) rfl).trans (yI_iconst zi_259_13 <| yI_ireturn zi_259_14)
theorem zi_260_13 : zraw 260 13 = some (.iconst 1, 1) ∧ zin 128 1 = true ∧ 13 + 1 = 14 := by decide +kernel
theorem zi_260_14 : zraw 260 14 = some (.ireturn, 1) ∧ (zinf 260).2.2.2.1 = 1 := by decide +kernel
theorem zx_260_2 {K : List zF} {σ : zW} {ls : List (Option zV)} {s : List zV} : zThr true ((260, 7, ls, s) :: K) 2 σ = zRet true K (some (.inl 1)) σ := (zThr_catch K σ (f' := (260, 13, zst1 ls 3 none, [])) rfl).trans (yI_iconst zi_260_13 <| yI_ireturn zi_260_14)
theorem zi_261_13 : zraw 261 13 = some (.iconst 1, 1) ∧ zin 128 1 = true ∧ 13 + 1 = 14 := by decide +kernel
theorem zi_261_14 : zraw 261 14 = some (.ireturn, 1) ∧ (zinf 261).2.2.2.1 = 1 := by decide +kernel
theorem zx_261_2 {K : List zF} {σ : zW} {ls : List (Option zV)} {s : List zV} : zThr true ((261, 7, ls, s) :: K) 2 σ = zRet true K (some (.inl 1)) σ := (zThr_catch K σ (f' := (261, 13, zst1 ls 3 none, [])) rfl).trans (yI_iconst zi_261_13 <| yI_ireturn zi_261_14)
theorem zi_262_13 : zraw 262 13 = some (.iconst 1, 1) ∧ zin 128 1 = true ∧ 13 + 1 = 14 := by decide +kernel
theorem zi_262_14 : zraw 262 14 = some (.ireturn, 1) ∧ (zinf 262).2.2.2.1 = 1 := by decide +kernel
theorem zx_262_2 {K : List zF} {σ : zW} {ls : List (Option zV)} {s : List zV} : zThr true ((262, 7, ls, s) :: K) 2 σ = zRet true K (some (.inl 1)) σ := (zThr_catch K σ (f' := (262, 13, zst1 ls 3 none, [])) rfl).trans (yI_iconst zi_262_13 <| yI_ireturn zi_262_14)
theorem zi_263_17 : zraw 263 17 = some (.iconst 1, 1) ∧ zin 128 1 = true ∧ 17 + 1 = 18 := by decide +kernel
theorem zi_263_18 : zraw 263 18 = some (.ireturn, 1) ∧ (zinf 263).2.2.2.1 = 1 := by decide +kernel
theorem zx_263_2 {K : List zF} {σ : zW} {ls : List (Option zV)} {s : List zV} : zThr true ((263, 10, ls, s) :: K) 2 σ = zRet true K (some (.inl 1)) σ := (zThr_catch K σ (f' := (263, 17, zst1 ls 5 none, [])) rfl).trans (yI_iconst zi_263_17 <| yI_ireturn zi_263_18)
theorem zi_264_17 : zraw 264 17 = some (.iconst 1, 1) ∧ zin 128 1 = true ∧ 17 + 1 = 18 := by decide +kernel
theorem zi_264_18 : zraw 264 18 = some (.ireturn, 1) ∧ (zinf 264).2.2.2.1 = 1 := by decide +kernel
theorem zx_264_2 {K : List zF} {σ : zW} {ls : List (Option zV)} {s : List zV} : zThr true ((264, 10, ls, s) :: K) 2 σ = zRet true K (some (.inl 1)) σ := (zThr_catch K σ (f' := (264, 17, zst1 ls 5 none, [])) rfl).trans (yI_iconst zi_264_17 <| yI_ireturn zi_264_18)
theorem zi_265_15 : zraw 265 15 = some (.iconst 1, 1) ∧ zin 128 1 = true ∧ 15 + 1 = 16 := by decide +kernel
theorem zi_265_16 : zraw 265 16 = some (.ireturn, 1) ∧ (zinf 265).2.2.2.1 = 1 := by decide +kernel
theorem zx_265_2 {K : List zF} {σ : zW} {ls : List (Option zV)} {s : List zV} : zThr true ((265, 8, ls, s) :: K) 2 σ = zRet true K (some (.inl 1)) σ := (zThr_catch K σ (f' := (265, 15, zst1 ls 4 none, [])) rfl).trans (yI_iconst zi_265_15 <| yI_ireturn zi_265_16)
theorem zi_266_13 : zraw 266 13 = some (.iconst 1, 1) ∧ zin 128 1 = true ∧ 13 + 1 = 14 := by decide +kernel
theorem zi_266_14 : zraw 266 14 = some (.ireturn, 1) ∧ (zinf 266).2.2.2.1 = 1 := by decide +kernel
theorem zx_266_2 {K : List zF} {σ : zW} {ls : List (Option zV)} {s : List zV} : zThr true ((266, 7, ls, s) :: K) 2 σ = zRet true K (some (.inl 1)) σ := (zThr_catch K σ (f' := (266, 13, zst1 ls 3 none, [])) rfl).trans (yI_iconst zi_266_13 <| yI_ireturn zi_266_14)
theorem zi_266_16 : zraw 266 16 = some (.iconst 2, 1) ∧ zin 128 2 = true ∧ 16 + 1 = 17 := by decide +kernel
theorem zi_266_17 : zraw 266 17 = some (.ireturn, 1) ∧ (zinf 266).2.2.2.1 = 1 := by decide +kernel
theorem zx_266_1 {K : List zF} {σ : zW} {ls : List (Option zV)} {s : List zV} : zThr true ((266, 7, ls, s) :: K) 1 σ = zRet true K (some (.inl 2)) σ := (zThr_catch K σ (f' := (266, 16, zst1 ls 3 none, [])) rfl).trans (yI_iconst zi_266_16 <| yI_ireturn zi_266_17)
theorem zi_267_13 : zraw 267 13 = some (.iconst 1, 1) ∧ zin 128 1 = true ∧ 13 + 1 = 14 := by decide +kernel
theorem zi_267_14 : zraw 267 14 = some (.ireturn, 1) ∧ (zinf 267).2.2.2.1 = 1 := by decide +kernel
theorem zx_267_2 {K : List zF} {σ : zW} {ls : List (Option zV)} {s : List zV} : zThr true ((267, 7, ls, s) :: K) 2 σ = zRet true K (some (.inl 1)) σ := (zThr_catch K σ (f' := (267, 13, zst1 ls 3 none, [])) rfl).trans (yI_iconst zi_267_13 <| yI_ireturn zi_267_14)
theorem zi_267_16 : zraw 267 16 = some (.iconst 2, 1) ∧ zin 128 2 = true ∧ 16 + 1 = 17 := by decide +kernel
theorem zi_267_17 : zraw 267 17 = some (.ireturn, 1) ∧ (zinf 267).2.2.2.1 = 1 := by decide +kernel
theorem zx_267_1 {K : List zF} {σ : zW} {ls : List (Option zV)} {s : List zV} : zThr true ((267, 7, ls, s) :: K) 1 σ = zRet true K (some (.inl 2)) σ := (zThr_catch K σ (f' := (267, 16, zst1 ls 3 none, [])) rfl).trans (yI_iconst zi_267_16 <| yI_ireturn zi_267_17)
theorem zi_268_13 : zraw 268 13 = some (.iconst 1, 1) ∧ zin 128 1 = true ∧ 13 + 1 = 14 := by decide +kernel
theorem zi_268_14 : zraw 268 14 = some (.ireturn, 1) ∧ (zinf 268).2.2.2.1 = 1 := by decide +kernel
theorem zx_268_2 {K : List zF} {σ : zW} {ls : List (Option zV)} {s : List zV} : zThr true ((268, 7, ls, s) :: K) 2 σ = zRet true K (some (.inl 1)) σ := (zThr_catch K σ (f' := (268, 13, zst1 ls 3 none, [])) rfl).trans (yI_iconst zi_268_13 <| yI_ireturn zi_268_14)
theorem zi_269_15 : zraw 269 15 = some (.iconst 1, 1) ∧ zin 128 1 = true ∧ 15 + 1 = 16 := by decide +kernel
theorem zi_269_16 : zraw 269 16 = some (.ireturn, 1) ∧ (zinf 269).2.2.2.1 = 1 := by decide +kernel
theorem zx_269_2 {K : List zF} {σ : zW} {ls : List (Option zV)} {s : List zV} : zThr true ((269, 8, ls, s) :: K) 2 σ = zRet true K (some (.inl 1)) σ := (zThr_catch K σ (f' := (269, 15, zst1 ls 4 none, [])) rfl).trans (yI_iconst zi_269_15 <| yI_ireturn zi_269_16)

theorem bg_70 : Cond.methodLink "DirtyCardHeapLaw" 13 ⟨"DirtyCardHeap","create","(III)I"⟩ ∈ BG := bg_t (List.mem_of_getElem? (i := 70) (by decide +kernel)) rfl
theorem bg_71 : Cond.instanceMethod ⟨"DirtyCardHeap","create","(III)I"⟩ ∈ BG := bg_t (List.mem_of_getElem? (i := 71) (by decide +kernel)) rfl
theorem bg_72 : Cond.selects "DirtyCardHeap" ⟨"DirtyCardHeap","create","(III)I"⟩ ⟨"DirtyCardHeap","create","(III)I"⟩ ∈ BG := bg_t (List.mem_of_getElem? (i := 72) (by decide +kernel)) rfl
theorem bg_516 : Cond.methodLink "DirtyCardHeapLaw" 17 ⟨"DirtyCardHeapModel","create","(III)I"⟩ ∈ BG := bg_t (List.mem_of_getElem? (i := 516) (by decide +kernel)) rfl
theorem bg_517 : Cond.instanceMethod ⟨"DirtyCardHeapModel","create","(III)I"⟩ ∈ BG := bg_t (List.mem_of_getElem? (i := 517) (by decide +kernel)) rfl
theorem bg_518 : Cond.selects "DirtyCardHeapModel" ⟨"DirtyCardHeapModel","create","(III)I"⟩ ⟨"DirtyCardHeapModel","create","(III)I"⟩ ∈ BG := bg_t (List.mem_of_getElem? (i := 518) (by decide +kernel)) rfl
theorem bg_261 : Cond.methodLink "DirtyCardHeapLaw" 18 ⟨"DirtyCardHeap","clear","(I)Z"⟩ ∈ BG := bg_t (List.mem_of_getElem? (i := 261) (by decide +kernel)) rfl
theorem bg_262 : Cond.instanceMethod ⟨"DirtyCardHeap","clear","(I)Z"⟩ ∈ BG := bg_t (List.mem_of_getElem? (i := 262) (by decide +kernel)) rfl
theorem bg_263 : Cond.selects "DirtyCardHeap" ⟨"DirtyCardHeap","clear","(I)Z"⟩ ⟨"DirtyCardHeap","clear","(I)Z"⟩ ∈ BG := bg_t (List.mem_of_getElem? (i := 263) (by decide +kernel)) rfl
theorem bg_531 : Cond.methodLink "DirtyCardHeapLaw" 22 ⟨"DirtyCardHeapModel","clear","(I)Z"⟩ ∈ BG := bg_t (List.mem_of_getElem? (i := 531) (by decide +kernel)) rfl
theorem bg_532 : Cond.instanceMethod ⟨"DirtyCardHeapModel","clear","(I)Z"⟩ ∈ BG := bg_t (List.mem_of_getElem? (i := 532) (by decide +kernel)) rfl
theorem bg_533 : Cond.selects "DirtyCardHeapModel" ⟨"DirtyCardHeapModel","clear","(I)Z"⟩ ⟨"DirtyCardHeapModel","clear","(I)Z"⟩ ∈ BG := bg_t (List.mem_of_getElem? (i := 533) (by decide +kernel)) rfl
theorem bg_265 : Cond.methodLink "DirtyCardHeapLaw" 23 ⟨"DirtyCardHeap","copy","(II)Z"⟩ ∈ BG := bg_t (List.mem_of_getElem? (i := 265) (by decide +kernel)) rfl
theorem bg_266 : Cond.instanceMethod ⟨"DirtyCardHeap","copy","(II)Z"⟩ ∈ BG := bg_t (List.mem_of_getElem? (i := 266) (by decide +kernel)) rfl
theorem bg_267 : Cond.selects "DirtyCardHeap" ⟨"DirtyCardHeap","copy","(II)Z"⟩ ⟨"DirtyCardHeap","copy","(II)Z"⟩ ∈ BG := bg_t (List.mem_of_getElem? (i := 267) (by decide +kernel)) rfl
theorem bg_535 : Cond.methodLink "DirtyCardHeapLaw" 27 ⟨"DirtyCardHeapModel","copy","(II)Z"⟩ ∈ BG := bg_t (List.mem_of_getElem? (i := 535) (by decide +kernel)) rfl
theorem bg_536 : Cond.instanceMethod ⟨"DirtyCardHeapModel","copy","(II)Z"⟩ ∈ BG := bg_t (List.mem_of_getElem? (i := 536) (by decide +kernel)) rfl
theorem bg_537 : Cond.selects "DirtyCardHeapModel" ⟨"DirtyCardHeapModel","copy","(II)Z"⟩ ⟨"DirtyCardHeapModel","copy","(II)Z"⟩ ∈ BG := bg_t (List.mem_of_getElem? (i := 537) (by decide +kernel)) rfl
theorem bg_269 : Cond.methodLink "DirtyCardHeapLaw" 28 ⟨"DirtyCardHeap","load","(III)I"⟩ ∈ BG := bg_t (List.mem_of_getElem? (i := 269) (by decide +kernel)) rfl
theorem bg_270 : Cond.instanceMethod ⟨"DirtyCardHeap","load","(III)I"⟩ ∈ BG := bg_t (List.mem_of_getElem? (i := 270) (by decide +kernel)) rfl
theorem bg_271 : Cond.selects "DirtyCardHeap" ⟨"DirtyCardHeap","load","(III)I"⟩ ⟨"DirtyCardHeap","load","(III)I"⟩ ∈ BG := bg_t (List.mem_of_getElem? (i := 271) (by decide +kernel)) rfl
theorem bg_539 : Cond.methodLink "DirtyCardHeapLaw" 31 ⟨"DirtyCardHeapModel","load","(III)I"⟩ ∈ BG := bg_t (List.mem_of_getElem? (i := 539) (by decide +kernel)) rfl
theorem bg_540 : Cond.instanceMethod ⟨"DirtyCardHeapModel","load","(III)I"⟩ ∈ BG := bg_t (List.mem_of_getElem? (i := 540) (by decide +kernel)) rfl
theorem bg_541 : Cond.selects "DirtyCardHeapModel" ⟨"DirtyCardHeapModel","load","(III)I"⟩ ⟨"DirtyCardHeapModel","load","(III)I"⟩ ∈ BG := bg_t (List.mem_of_getElem? (i := 541) (by decide +kernel)) rfl
theorem bg_274 : Cond.methodLink "DirtyCardHeapLaw" 32 ⟨"DirtyCardHeap","store","(III)I"⟩ ∈ BG := bg_t (List.mem_of_getElem? (i := 274) (by decide +kernel)) rfl
theorem bg_275 : Cond.instanceMethod ⟨"DirtyCardHeap","store","(III)I"⟩ ∈ BG := bg_t (List.mem_of_getElem? (i := 275) (by decide +kernel)) rfl
theorem bg_276 : Cond.selects "DirtyCardHeap" ⟨"DirtyCardHeap","store","(III)I"⟩ ⟨"DirtyCardHeap","store","(III)I"⟩ ∈ BG := bg_t (List.mem_of_getElem? (i := 276) (by decide +kernel)) rfl
theorem bg_547 : Cond.methodLink "DirtyCardHeapLaw" 35 ⟨"DirtyCardHeapModel","store","(III)I"⟩ ∈ BG := bg_t (List.mem_of_getElem? (i := 547) (by decide +kernel)) rfl
theorem bg_548 : Cond.instanceMethod ⟨"DirtyCardHeapModel","store","(III)I"⟩ ∈ BG := bg_t (List.mem_of_getElem? (i := 548) (by decide +kernel)) rfl
theorem bg_549 : Cond.selects "DirtyCardHeapModel" ⟨"DirtyCardHeapModel","store","(III)I"⟩ ⟨"DirtyCardHeapModel","store","(III)I"⟩ ∈ BG := bg_t (List.mem_of_getElem? (i := 549) (by decide +kernel)) rfl
theorem bg_282 : Cond.methodLink "DirtyCardHeapLaw" 36 ⟨"DirtyCardHeap","payload","(I)I"⟩ ∈ BG := bg_t (List.mem_of_getElem? (i := 282) (by decide +kernel)) rfl
theorem bg_283 : Cond.instanceMethod ⟨"DirtyCardHeap","payload","(I)I"⟩ ∈ BG := bg_t (List.mem_of_getElem? (i := 283) (by decide +kernel)) rfl
theorem bg_284 : Cond.selects "DirtyCardHeap" ⟨"DirtyCardHeap","payload","(I)I"⟩ ⟨"DirtyCardHeap","payload","(I)I"⟩ ∈ BG := bg_t (List.mem_of_getElem? (i := 284) (by decide +kernel)) rfl
theorem bg_551 : Cond.methodLink "DirtyCardHeapLaw" 40 ⟨"DirtyCardHeapModel","payload","(I)I"⟩ ∈ BG := bg_t (List.mem_of_getElem? (i := 551) (by decide +kernel)) rfl
theorem bg_552 : Cond.instanceMethod ⟨"DirtyCardHeapModel","payload","(I)I"⟩ ∈ BG := bg_t (List.mem_of_getElem? (i := 552) (by decide +kernel)) rfl
theorem bg_553 : Cond.selects "DirtyCardHeapModel" ⟨"DirtyCardHeapModel","payload","(I)I"⟩ ⟨"DirtyCardHeapModel","payload","(I)I"⟩ ∈ BG := bg_t (List.mem_of_getElem? (i := 553) (by decide +kernel)) rfl
theorem bg_290 : Cond.methodLink "DirtyCardHeapLaw" 41 ⟨"DirtyCardHeap","same","(II)Z"⟩ ∈ BG := bg_t (List.mem_of_getElem? (i := 290) (by decide +kernel)) rfl
theorem bg_291 : Cond.instanceMethod ⟨"DirtyCardHeap","same","(II)Z"⟩ ∈ BG := bg_t (List.mem_of_getElem? (i := 291) (by decide +kernel)) rfl
theorem bg_292 : Cond.selects "DirtyCardHeap" ⟨"DirtyCardHeap","same","(II)Z"⟩ ⟨"DirtyCardHeap","same","(II)Z"⟩ ∈ BG := bg_t (List.mem_of_getElem? (i := 292) (by decide +kernel)) rfl
theorem bg_555 : Cond.methodLink "DirtyCardHeapLaw" 44 ⟨"DirtyCardHeapModel","same","(II)Z"⟩ ∈ BG := bg_t (List.mem_of_getElem? (i := 555) (by decide +kernel)) rfl
theorem bg_556 : Cond.instanceMethod ⟨"DirtyCardHeapModel","same","(II)Z"⟩ ∈ BG := bg_t (List.mem_of_getElem? (i := 556) (by decide +kernel)) rfl
theorem bg_557 : Cond.selects "DirtyCardHeapModel" ⟨"DirtyCardHeapModel","same","(II)Z"⟩ ⟨"DirtyCardHeapModel","same","(II)Z"⟩ ∈ BG := bg_t (List.mem_of_getElem? (i := 557) (by decide +kernel)) rfl
theorem bg_294 : Cond.methodLink "DirtyCardHeapLaw" 45 ⟨"DirtyCardHeap","address","(I)I"⟩ ∈ BG := bg_t (List.mem_of_getElem? (i := 294) (by decide +kernel)) rfl
theorem bg_295 : Cond.instanceMethod ⟨"DirtyCardHeap","address","(I)I"⟩ ∈ BG := bg_t (List.mem_of_getElem? (i := 295) (by decide +kernel)) rfl
theorem bg_296 : Cond.selects "DirtyCardHeap" ⟨"DirtyCardHeap","address","(I)I"⟩ ⟨"DirtyCardHeap","address","(I)I"⟩ ∈ BG := bg_t (List.mem_of_getElem? (i := 296) (by decide +kernel)) rfl
theorem bg_559 : Cond.methodLink "DirtyCardHeapLaw" 48 ⟨"DirtyCardHeapModel","address","(I)I"⟩ ∈ BG := bg_t (List.mem_of_getElem? (i := 559) (by decide +kernel)) rfl
theorem bg_560 : Cond.instanceMethod ⟨"DirtyCardHeapModel","address","(I)I"⟩ ∈ BG := bg_t (List.mem_of_getElem? (i := 560) (by decide +kernel)) rfl
theorem bg_561 : Cond.selects "DirtyCardHeapModel" ⟨"DirtyCardHeapModel","address","(I)I"⟩ ⟨"DirtyCardHeapModel","address","(I)I"⟩ ∈ BG := bg_t (List.mem_of_getElem? (i := 561) (by decide +kernel)) rfl
theorem bg_298 : Cond.methodLink "DirtyCardHeapLaw" 49 ⟨"DirtyCardHeap","age","(I)I"⟩ ∈ BG := bg_t (List.mem_of_getElem? (i := 298) (by decide +kernel)) rfl
theorem bg_299 : Cond.instanceMethod ⟨"DirtyCardHeap","age","(I)I"⟩ ∈ BG := bg_t (List.mem_of_getElem? (i := 299) (by decide +kernel)) rfl
theorem bg_300 : Cond.selects "DirtyCardHeap" ⟨"DirtyCardHeap","age","(I)I"⟩ ⟨"DirtyCardHeap","age","(I)I"⟩ ∈ BG := bg_t (List.mem_of_getElem? (i := 300) (by decide +kernel)) rfl
theorem bg_563 : Cond.methodLink "DirtyCardHeapLaw" 52 ⟨"DirtyCardHeapModel","age","(I)I"⟩ ∈ BG := bg_t (List.mem_of_getElem? (i := 563) (by decide +kernel)) rfl
theorem bg_564 : Cond.instanceMethod ⟨"DirtyCardHeapModel","age","(I)I"⟩ ∈ BG := bg_t (List.mem_of_getElem? (i := 564) (by decide +kernel)) rfl
theorem bg_565 : Cond.selects "DirtyCardHeapModel" ⟨"DirtyCardHeapModel","age","(I)I"⟩ ⟨"DirtyCardHeapModel","age","(I)I"⟩ ∈ BG := bg_t (List.mem_of_getElem? (i := 565) (by decide +kernel)) rfl
theorem bg_302 : Cond.methodLink "DirtyCardHeapLaw" 53 ⟨"DirtyCardHeap","collect","(Z)I"⟩ ∈ BG := bg_t (List.mem_of_getElem? (i := 302) (by decide +kernel)) rfl
theorem bg_303 : Cond.instanceMethod ⟨"DirtyCardHeap","collect","(Z)I"⟩ ∈ BG := bg_t (List.mem_of_getElem? (i := 303) (by decide +kernel)) rfl
theorem bg_304 : Cond.selects "DirtyCardHeap" ⟨"DirtyCardHeap","collect","(Z)I"⟩ ⟨"DirtyCardHeap","collect","(Z)I"⟩ ∈ BG := bg_t (List.mem_of_getElem? (i := 304) (by decide +kernel)) rfl
theorem bg_460 : Cond.methodLink "DirtyCardHeapLaw" 57 ⟨"DirtyCardHeapModel","collect","(Z)I"⟩ ∈ BG := bg_t (List.mem_of_getElem? (i := 460) (by decide +kernel)) rfl
theorem bg_461 : Cond.instanceMethod ⟨"DirtyCardHeapModel","collect","(Z)I"⟩ ∈ BG := bg_t (List.mem_of_getElem? (i := 461) (by decide +kernel)) rfl
theorem bg_462 : Cond.selects "DirtyCardHeapModel" ⟨"DirtyCardHeapModel","collect","(Z)I"⟩ ⟨"DirtyCardHeapModel","collect","(Z)I"⟩ ∈ BG := bg_t (List.mem_of_getElem? (i := 462) (by decide +kernel)) rfl
theorem bg_306 : Cond.methodLink "DirtyCardHeapLaw" 58 ⟨"DirtyCardHeap","begin","()I"⟩ ∈ BG := bg_t (List.mem_of_getElem? (i := 306) (by decide +kernel)) rfl
theorem bg_307 : Cond.instanceMethod ⟨"DirtyCardHeap","begin","()I"⟩ ∈ BG := bg_t (List.mem_of_getElem? (i := 307) (by decide +kernel)) rfl
theorem bg_308 : Cond.selects "DirtyCardHeap" ⟨"DirtyCardHeap","begin","()I"⟩ ⟨"DirtyCardHeap","begin","()I"⟩ ∈ BG := bg_t (List.mem_of_getElem? (i := 308) (by decide +kernel)) rfl
theorem bg_567 : Cond.methodLink "DirtyCardHeapLaw" 62 ⟨"DirtyCardHeapModel","begin","()I"⟩ ∈ BG := bg_t (List.mem_of_getElem? (i := 567) (by decide +kernel)) rfl
theorem bg_568 : Cond.instanceMethod ⟨"DirtyCardHeapModel","begin","()I"⟩ ∈ BG := bg_t (List.mem_of_getElem? (i := 568) (by decide +kernel)) rfl
theorem bg_569 : Cond.selects "DirtyCardHeapModel" ⟨"DirtyCardHeapModel","begin","()I"⟩ ⟨"DirtyCardHeapModel","begin","()I"⟩ ∈ BG := bg_t (List.mem_of_getElem? (i := 569) (by decide +kernel)) rfl
theorem bg_317 : Cond.methodLink "DirtyCardHeapLaw" 63 ⟨"DirtyCardHeap","mark","()I"⟩ ∈ BG := bg_t (List.mem_of_getElem? (i := 317) (by decide +kernel)) rfl
theorem bg_318 : Cond.instanceMethod ⟨"DirtyCardHeap","mark","()I"⟩ ∈ BG := bg_t (List.mem_of_getElem? (i := 318) (by decide +kernel)) rfl
theorem bg_319 : Cond.selects "DirtyCardHeap" ⟨"DirtyCardHeap","mark","()I"⟩ ⟨"DirtyCardHeap","mark","()I"⟩ ∈ BG := bg_t (List.mem_of_getElem? (i := 319) (by decide +kernel)) rfl
theorem bg_575 : Cond.methodLink "DirtyCardHeapLaw" 66 ⟨"DirtyCardHeapModel","mark","()I"⟩ ∈ BG := bg_t (List.mem_of_getElem? (i := 575) (by decide +kernel)) rfl
theorem bg_576 : Cond.instanceMethod ⟨"DirtyCardHeapModel","mark","()I"⟩ ∈ BG := bg_t (List.mem_of_getElem? (i := 576) (by decide +kernel)) rfl
theorem bg_577 : Cond.selects "DirtyCardHeapModel" ⟨"DirtyCardHeapModel","mark","()I"⟩ ⟨"DirtyCardHeapModel","mark","()I"⟩ ∈ BG := bg_t (List.mem_of_getElem? (i := 577) (by decide +kernel)) rfl
theorem bg_331 : Cond.methodLink "DirtyCardHeapLaw" 67 ⟨"DirtyCardHeap","preclean","()I"⟩ ∈ BG := bg_t (List.mem_of_getElem? (i := 331) (by decide +kernel)) rfl
theorem bg_332 : Cond.instanceMethod ⟨"DirtyCardHeap","preclean","()I"⟩ ∈ BG := bg_t (List.mem_of_getElem? (i := 332) (by decide +kernel)) rfl
theorem bg_333 : Cond.selects "DirtyCardHeap" ⟨"DirtyCardHeap","preclean","()I"⟩ ⟨"DirtyCardHeap","preclean","()I"⟩ ∈ BG := bg_t (List.mem_of_getElem? (i := 333) (by decide +kernel)) rfl
theorem bg_587 : Cond.methodLink "DirtyCardHeapLaw" 70 ⟨"DirtyCardHeapModel","preclean","()I"⟩ ∈ BG := bg_t (List.mem_of_getElem? (i := 587) (by decide +kernel)) rfl
theorem bg_588 : Cond.instanceMethod ⟨"DirtyCardHeapModel","preclean","()I"⟩ ∈ BG := bg_t (List.mem_of_getElem? (i := 588) (by decide +kernel)) rfl
theorem bg_589 : Cond.selects "DirtyCardHeapModel" ⟨"DirtyCardHeapModel","preclean","()I"⟩ ⟨"DirtyCardHeapModel","preclean","()I"⟩ ∈ BG := bg_t (List.mem_of_getElem? (i := 589) (by decide +kernel)) rfl
theorem bg_339 : Cond.methodLink "DirtyCardHeapLaw" 71 ⟨"DirtyCardHeap","remark","()I"⟩ ∈ BG := bg_t (List.mem_of_getElem? (i := 339) (by decide +kernel)) rfl
theorem bg_340 : Cond.instanceMethod ⟨"DirtyCardHeap","remark","()I"⟩ ∈ BG := bg_t (List.mem_of_getElem? (i := 340) (by decide +kernel)) rfl
theorem bg_341 : Cond.selects "DirtyCardHeap" ⟨"DirtyCardHeap","remark","()I"⟩ ⟨"DirtyCardHeap","remark","()I"⟩ ∈ BG := bg_t (List.mem_of_getElem? (i := 341) (by decide +kernel)) rfl
theorem bg_595 : Cond.methodLink "DirtyCardHeapLaw" 74 ⟨"DirtyCardHeapModel","remark","()I"⟩ ∈ BG := bg_t (List.mem_of_getElem? (i := 595) (by decide +kernel)) rfl
theorem bg_596 : Cond.instanceMethod ⟨"DirtyCardHeapModel","remark","()I"⟩ ∈ BG := bg_t (List.mem_of_getElem? (i := 596) (by decide +kernel)) rfl
theorem bg_597 : Cond.selects "DirtyCardHeapModel" ⟨"DirtyCardHeapModel","remark","()I"⟩ ⟨"DirtyCardHeapModel","remark","()I"⟩ ∈ BG := bg_t (List.mem_of_getElem? (i := 597) (by decide +kernel)) rfl
theorem bg_351 : Cond.methodLink "DirtyCardHeapLaw" 75 ⟨"DirtyCardHeap","sweep","()I"⟩ ∈ BG := bg_t (List.mem_of_getElem? (i := 351) (by decide +kernel)) rfl
theorem bg_352 : Cond.instanceMethod ⟨"DirtyCardHeap","sweep","()I"⟩ ∈ BG := bg_t (List.mem_of_getElem? (i := 352) (by decide +kernel)) rfl
theorem bg_353 : Cond.selects "DirtyCardHeap" ⟨"DirtyCardHeap","sweep","()I"⟩ ⟨"DirtyCardHeap","sweep","()I"⟩ ∈ BG := bg_t (List.mem_of_getElem? (i := 353) (by decide +kernel)) rfl
theorem bg_599 : Cond.methodLink "DirtyCardHeapLaw" 78 ⟨"DirtyCardHeapModel","sweep","()I"⟩ ∈ BG := bg_t (List.mem_of_getElem? (i := 599) (by decide +kernel)) rfl
theorem bg_600 : Cond.instanceMethod ⟨"DirtyCardHeapModel","sweep","()I"⟩ ∈ BG := bg_t (List.mem_of_getElem? (i := 600) (by decide +kernel)) rfl
theorem bg_601 : Cond.selects "DirtyCardHeapModel" ⟨"DirtyCardHeapModel","sweep","()I"⟩ ⟨"DirtyCardHeapModel","sweep","()I"⟩ ∈ BG := bg_t (List.mem_of_getElem? (i := 601) (by decide +kernel)) rfl
theorem bg_360 : Cond.methodLink "DirtyCardHeapLaw" 79 ⟨"DirtyCardHeap","phase","()I"⟩ ∈ BG := bg_t (List.mem_of_getElem? (i := 360) (by decide +kernel)) rfl
theorem bg_361 : Cond.instanceMethod ⟨"DirtyCardHeap","phase","()I"⟩ ∈ BG := bg_t (List.mem_of_getElem? (i := 361) (by decide +kernel)) rfl
theorem bg_362 : Cond.selects "DirtyCardHeap" ⟨"DirtyCardHeap","phase","()I"⟩ ⟨"DirtyCardHeap","phase","()I"⟩ ∈ BG := bg_t (List.mem_of_getElem? (i := 362) (by decide +kernel)) rfl
theorem bg_603 : Cond.methodLink "DirtyCardHeapLaw" 82 ⟨"DirtyCardHeapModel","phase","()I"⟩ ∈ BG := bg_t (List.mem_of_getElem? (i := 603) (by decide +kernel)) rfl
theorem bg_604 : Cond.instanceMethod ⟨"DirtyCardHeapModel","phase","()I"⟩ ∈ BG := bg_t (List.mem_of_getElem? (i := 604) (by decide +kernel)) rfl
theorem bg_605 : Cond.selects "DirtyCardHeapModel" ⟨"DirtyCardHeapModel","phase","()I"⟩ ⟨"DirtyCardHeapModel","phase","()I"⟩ ∈ BG := bg_t (List.mem_of_getElem? (i := 605) (by decide +kernel)) rfl
theorem bg_364 : Cond.methodLink "DirtyCardHeapLaw" 83 ⟨"DirtyCardHeap","oldCells","()I"⟩ ∈ BG := bg_t (List.mem_of_getElem? (i := 364) (by decide +kernel)) rfl
theorem bg_365 : Cond.instanceMethod ⟨"DirtyCardHeap","oldCells","()I"⟩ ∈ BG := bg_t (List.mem_of_getElem? (i := 365) (by decide +kernel)) rfl
theorem bg_366 : Cond.selects "DirtyCardHeap" ⟨"DirtyCardHeap","oldCells","()I"⟩ ⟨"DirtyCardHeap","oldCells","()I"⟩ ∈ BG := bg_t (List.mem_of_getElem? (i := 366) (by decide +kernel)) rfl
theorem bg_607 : Cond.methodLink "DirtyCardHeapLaw" 86 ⟨"DirtyCardHeapModel","oldCells","()I"⟩ ∈ BG := bg_t (List.mem_of_getElem? (i := 607) (by decide +kernel)) rfl
theorem bg_608 : Cond.instanceMethod ⟨"DirtyCardHeapModel","oldCells","()I"⟩ ∈ BG := bg_t (List.mem_of_getElem? (i := 608) (by decide +kernel)) rfl
theorem bg_609 : Cond.selects "DirtyCardHeapModel" ⟨"DirtyCardHeapModel","oldCells","()I"⟩ ⟨"DirtyCardHeapModel","oldCells","()I"⟩ ∈ BG := bg_t (List.mem_of_getElem? (i := 609) (by decide +kernel)) rfl
theorem bg_372 : Cond.methodLink "DirtyCardHeapLaw" 87 ⟨"DirtyCardHeap","youngCells","()I"⟩ ∈ BG := bg_t (List.mem_of_getElem? (i := 372) (by decide +kernel)) rfl
theorem bg_373 : Cond.instanceMethod ⟨"DirtyCardHeap","youngCells","()I"⟩ ∈ BG := bg_t (List.mem_of_getElem? (i := 373) (by decide +kernel)) rfl
theorem bg_374 : Cond.selects "DirtyCardHeap" ⟨"DirtyCardHeap","youngCells","()I"⟩ ⟨"DirtyCardHeap","youngCells","()I"⟩ ∈ BG := bg_t (List.mem_of_getElem? (i := 374) (by decide +kernel)) rfl
theorem bg_611 : Cond.methodLink "DirtyCardHeapLaw" 90 ⟨"DirtyCardHeapModel","youngCells","()I"⟩ ∈ BG := bg_t (List.mem_of_getElem? (i := 611) (by decide +kernel)) rfl
theorem bg_376 : Cond.methodLink "DirtyCardHeapLaw" 91 ⟨"DirtyCardHeap","cards","()I"⟩ ∈ BG := bg_t (List.mem_of_getElem? (i := 376) (by decide +kernel)) rfl
theorem bg_377 : Cond.instanceMethod ⟨"DirtyCardHeap","cards","()I"⟩ ∈ BG := bg_t (List.mem_of_getElem? (i := 377) (by decide +kernel)) rfl
theorem bg_378 : Cond.selects "DirtyCardHeap" ⟨"DirtyCardHeap","cards","()I"⟩ ⟨"DirtyCardHeap","cards","()I"⟩ ∈ BG := bg_t (List.mem_of_getElem? (i := 378) (by decide +kernel)) rfl
theorem bg_612 : Cond.methodLink "DirtyCardHeapLaw" 94 ⟨"DirtyCardHeapModel","cards","()I"⟩ ∈ BG := bg_t (List.mem_of_getElem? (i := 612) (by decide +kernel)) rfl
theorem bg_613 : Cond.instanceMethod ⟨"DirtyCardHeapModel","cards","()I"⟩ ∈ BG := bg_t (List.mem_of_getElem? (i := 613) (by decide +kernel)) rfl
theorem bg_614 : Cond.selects "DirtyCardHeapModel" ⟨"DirtyCardHeapModel","cards","()I"⟩ ⟨"DirtyCardHeapModel","cards","()I"⟩ ∈ BG := bg_t (List.mem_of_getElem? (i := 614) (by decide +kernel)) rfl
theorem bg_380 : Cond.methodLink "DirtyCardHeapLaw" 95 ⟨"DirtyCardHeap","marked","()I"⟩ ∈ BG := bg_t (List.mem_of_getElem? (i := 380) (by decide +kernel)) rfl
theorem bg_381 : Cond.instanceMethod ⟨"DirtyCardHeap","marked","()I"⟩ ∈ BG := bg_t (List.mem_of_getElem? (i := 381) (by decide +kernel)) rfl
theorem bg_382 : Cond.selects "DirtyCardHeap" ⟨"DirtyCardHeap","marked","()I"⟩ ⟨"DirtyCardHeap","marked","()I"⟩ ∈ BG := bg_t (List.mem_of_getElem? (i := 382) (by decide +kernel)) rfl
theorem bg_616 : Cond.methodLink "DirtyCardHeapLaw" 98 ⟨"DirtyCardHeapModel","marked","()I"⟩ ∈ BG := bg_t (List.mem_of_getElem? (i := 616) (by decide +kernel)) rfl
theorem bg_617 : Cond.instanceMethod ⟨"DirtyCardHeapModel","marked","()I"⟩ ∈ BG := bg_t (List.mem_of_getElem? (i := 617) (by decide +kernel)) rfl
theorem bg_618 : Cond.selects "DirtyCardHeapModel" ⟨"DirtyCardHeapModel","marked","()I"⟩ ⟨"DirtyCardHeapModel","marked","()I"⟩ ∈ BG := bg_t (List.mem_of_getElem? (i := 618) (by decide +kernel)) rfl
theorem bg_7 : Cond.classLink "DirtyCardHeapLaw" 7 "DirtyCardHeap" ∈ BG := bg_t (List.mem_of_getElem? (i := 7) (by decide +kernel)) rfl
theorem bg_385 : Cond.classLink "DirtyCardHeapLaw" 10 "DirtyCardHeapModel" ∈ BG := bg_t (List.mem_of_getElem? (i := 385) (by decide +kernel)) rfl
theorem bg_8 : Cond.instantiable "DirtyCardHeap" 8 ∈ BG := bg_t (List.mem_of_getElem? (i := 8) (by decide +kernel)) rfl
theorem bg_386 : Cond.instantiable "DirtyCardHeapModel" 22 ∈ BG := bg_t (List.mem_of_getElem? (i := 386) (by decide +kernel)) rfl
theorem bg_9 : Cond.methodLink "DirtyCardHeapLaw" 9 ⟨"DirtyCardHeap","<init>","()V"⟩ ∈ BG := bg_t (List.mem_of_getElem? (i := 9) (by decide +kernel)) rfl
theorem bg_387 : Cond.methodLink "DirtyCardHeapLaw" 12 ⟨"DirtyCardHeapModel","<init>","()V"⟩ ∈ BG := bg_t (List.mem_of_getElem? (i := 387) (by decide +kernel)) rfl
theorem bg_10 : Cond.instanceMethod ⟨"DirtyCardHeap","<init>","()V"⟩ ∈ BG := bg_t (List.mem_of_getElem? (i := 10) (by decide +kernel)) rfl
theorem bg_388 : Cond.instanceMethod ⟨"DirtyCardHeapModel","<init>","()V"⟩ ∈ BG := bg_t (List.mem_of_getElem? (i := 388) (by decide +kernel)) rfl

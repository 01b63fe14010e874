theorem cwO : Cond.code objectInit ⟨#[0xb1]⟩ 1 none ∈ wG := wG_in 71 (by decide +kernel) rfl
theorem cw56 : Cond.code (pm_yn 56) (pm_cc 56) (pm_nl 56) (pm_rt 56) ∈ wG := wG_in 86 (by decide +kernel) rfl
theorem hd56 : (pm_yn 56).cls ≠ "java/lang/invoke/MethodHandle" ∧ (pm_yn 56).cls ≠ "java/lang/invoke/VarHandle" ∧ (parseMethodDescriptor (pm_yn 56).desc).map (fun d => d.parameters.length) = some 1 := by decide +kernel
theorem cw45 : Cond.code (pm_yn 45) (pm_cc 45) (pm_nl 45) (pm_rt 45) ∈ wG := wG_in 106 (by decide +kernel) rfl
theorem hd45 : (pm_yn 45).cls ≠ "java/lang/invoke/MethodHandle" ∧ (pm_yn 45).cls ≠ "java/lang/invoke/VarHandle" ∧ (parseMethodDescriptor (pm_yn 45).desc).map (fun d => d.parameters.length) = some 0 := by decide +kernel
theorem cw47 : Cond.code (pm_yn 47) (pm_cc 47) (pm_nl 47) (pm_rt 47) ∈ wG := wG_in 729 (by decide +kernel) rfl
theorem hd47 : (pm_yn 47).cls ≠ "java/lang/invoke/MethodHandle" ∧ (pm_yn 47).cls ≠ "java/lang/invoke/VarHandle" ∧ (parseMethodDescriptor (pm_yn 47).desc).map (fun d => d.parameters.length) = some 1 := by decide +kernel
theorem cw29 : Cond.code (pm_yn 29) (pm_cc 29) (pm_nl 29) (pm_rt 29) ∈ wG := wG_in 374 (by decide +kernel) rfl
theorem hd29 : (pm_yn 29).cls ≠ "java/lang/invoke/MethodHandle" ∧ (pm_yn 29).cls ≠ "java/lang/invoke/VarHandle" ∧ (parseMethodDescriptor (pm_yn 29).desc).map (fun d => d.parameters.length) = some 1 := by decide +kernel
theorem cw30 : Cond.code (pm_yn 30) (pm_cc 30) (pm_nl 30) (pm_rt 30) ∈ wG := wG_in 386 (by decide +kernel) rfl
theorem hd30 : (pm_yn 30).cls ≠ "java/lang/invoke/MethodHandle" ∧ (pm_yn 30).cls ≠ "java/lang/invoke/VarHandle" ∧ (parseMethodDescriptor (pm_yn 30).desc).map (fun d => d.parameters.length) = some 2 := by decide +kernel
theorem cw31 : Cond.code (pm_yn 31) (pm_cc 31) (pm_nl 31) (pm_rt 31) ∈ wG := wG_in 398 (by decide +kernel) rfl
theorem hd31 : (pm_yn 31).cls ≠ "java/lang/invoke/MethodHandle" ∧ (pm_yn 31).cls ≠ "java/lang/invoke/VarHandle" ∧ (parseMethodDescriptor (pm_yn 31).desc).map (fun d => d.parameters.length) = some 2 := by decide +kernel
theorem cw32 : Cond.code (pm_yn 32) (pm_cc 32) (pm_nl 32) (pm_rt 32) ∈ wG := wG_in 407 (by decide +kernel) rfl
theorem hd32 : (pm_yn 32).cls ≠ "java/lang/invoke/MethodHandle" ∧ (pm_yn 32).cls ≠ "java/lang/invoke/VarHandle" ∧ (parseMethodDescriptor (pm_yn 32).desc).map (fun d => d.parameters.length) = some 1 := by decide +kernel
theorem cw33 : Cond.code (pm_yn 33) (pm_cc 33) (pm_nl 33) (pm_rt 33) ∈ wG := wG_in 411 (by decide +kernel) rfl
theorem hd33 : (pm_yn 33).cls ≠ "java/lang/invoke/MethodHandle" ∧ (pm_yn 33).cls ≠ "java/lang/invoke/VarHandle" ∧ (parseMethodDescriptor (pm_yn 33).desc).map (fun d => d.parameters.length) = some 2 := by decide +kernel
theorem cw34 : Cond.code (pm_yn 34) (pm_cc 34) (pm_nl 34) (pm_rt 34) ∈ wG := wG_in 415 (by decide +kernel) rfl
theorem hd34 : (pm_yn 34).cls ≠ "java/lang/invoke/MethodHandle" ∧ (pm_yn 34).cls ≠ "java/lang/invoke/VarHandle" ∧ (parseMethodDescriptor (pm_yn 34).desc).map (fun d => d.parameters.length) = some 1 := by decide +kernel
theorem cw35 : Cond.code (pm_yn 35) (pm_cc 35) (pm_nl 35) (pm_rt 35) ∈ wG := wG_in 427 (by decide +kernel) rfl
theorem hd35 : (pm_yn 35).cls ≠ "java/lang/invoke/MethodHandle" ∧ (pm_yn 35).cls ≠ "java/lang/invoke/VarHandle" ∧ (parseMethodDescriptor (pm_yn 35).desc).map (fun d => d.parameters.length) = some 1 := by decide +kernel
theorem cw36 : Cond.code (pm_yn 36) (pm_cc 36) (pm_nl 36) (pm_rt 36) ∈ wG := wG_in 436 (by decide +kernel) rfl
theorem hd36 : (pm_yn 36).cls ≠ "java/lang/invoke/MethodHandle" ∧ (pm_yn 36).cls ≠ "java/lang/invoke/VarHandle" ∧ (parseMethodDescriptor (pm_yn 36).desc).map (fun d => d.parameters.length) = some 1 := by decide +kernel
theorem cw28 : Cond.code (pm_yn 28) (pm_cc 28) (pm_nl 28) (pm_rt 28) ∈ wG := wG_in 452 (by decide +kernel) rfl
theorem hd28 : (pm_yn 28).cls ≠ "java/lang/invoke/MethodHandle" ∧ (pm_yn 28).cls ≠ "java/lang/invoke/VarHandle" ∧ (parseMethodDescriptor (pm_yn 28).desc).map (fun d => d.parameters.length) = some 1 := by decide +kernel
theorem cw48 : Cond.code (pm_yn 48) (pm_cc 48) (pm_nl 48) (pm_rt 48) ∈ wG := wG_in 431 (by decide +kernel) rfl
theorem hd48 : (pm_yn 48).cls ≠ "java/lang/invoke/MethodHandle" ∧ (pm_yn 48).cls ≠ "java/lang/invoke/VarHandle" ∧ (parseMethodDescriptor (pm_yn 48).desc).map (fun d => d.parameters.length) = some 0 := by decide +kernel
theorem cw51 : Cond.code (pm_yn 51) (pm_cc 51) (pm_nl 51) (pm_rt 51) ∈ wG := wG_in 692 (by decide +kernel) rfl
theorem hd51 : (pm_yn 51).cls ≠ "java/lang/invoke/MethodHandle" ∧ (pm_yn 51).cls ≠ "java/lang/invoke/VarHandle" ∧ (parseMethodDescriptor (pm_yn 51).desc).map (fun d => d.parameters.length) = some 1 := by decide +kernel
theorem cw50 : Cond.code (pm_yn 50) (pm_cc 50) (pm_nl 50) (pm_rt 50) ∈ wG := wG_in 460 (by decide +kernel) rfl
theorem hd50 : (pm_yn 50).cls ≠ "java/lang/invoke/MethodHandle" ∧ (pm_yn 50).cls ≠ "java/lang/invoke/VarHandle" ∧ (parseMethodDescriptor (pm_yn 50).desc).map (fun d => d.parameters.length) = some 1 := by decide +kernel
theorem cw130 : Cond.code (pm_yn 130) (pm_cc 130) (pm_nl 130) (pm_rt 130) ∈ wG := wG_in 587 (by decide +kernel) rfl
theorem hd130 : (pm_yn 130).cls ≠ "java/lang/invoke/MethodHandle" ∧ (pm_yn 130).cls ≠ "java/lang/invoke/VarHandle" ∧ (parseMethodDescriptor (pm_yn 130).desc).map (fun d => d.parameters.length) = some 2 := by decide +kernel
theorem cw132 : Cond.code (pm_yn 132) (pm_cc 132) (pm_nl 132) (pm_rt 132) ∈ wG := wG_in 746 (by decide +kernel) rfl
theorem hd132 : (pm_yn 132).cls ≠ "java/lang/invoke/MethodHandle" ∧ (pm_yn 132).cls ≠ "java/lang/invoke/VarHandle" ∧ (parseMethodDescriptor (pm_yn 132).desc).map (fun d => d.parameters.length) = some 2 := by decide +kernel
theorem cw37 : Cond.code (pm_yn 37) (pm_cc 37) (pm_nl 37) (pm_rt 37) ∈ wG := wG_in 456 (by decide +kernel) rfl
theorem hd37 : (pm_yn 37).cls ≠ "java/lang/invoke/MethodHandle" ∧ (pm_yn 37).cls ≠ "java/lang/invoke/VarHandle" ∧ (parseMethodDescriptor (pm_yn 37).desc).map (fun d => d.parameters.length) = some 0 := by decide +kernel
theorem cw38 : Cond.code (pm_yn 38) (pm_cc 38) (pm_nl 38) (pm_rt 38) ∈ wG := wG_in 464 (by decide +kernel) rfl
theorem hd38 : (pm_yn 38).cls ≠ "java/lang/invoke/MethodHandle" ∧ (pm_yn 38).cls ≠ "java/lang/invoke/VarHandle" ∧ (parseMethodDescriptor (pm_yn 38).desc).map (fun d => d.parameters.length) = some 0 := by decide +kernel
theorem cw39 : Cond.code (pm_yn 39) (pm_cc 39) (pm_nl 39) (pm_rt 39) ∈ wG := wG_in 468 (by decide +kernel) rfl
theorem hd39 : (pm_yn 39).cls ≠ "java/lang/invoke/MethodHandle" ∧ (pm_yn 39).cls ≠ "java/lang/invoke/VarHandle" ∧ (parseMethodDescriptor (pm_yn 39).desc).map (fun d => d.parameters.length) = some 0 := by decide +kernel
theorem cw40 : Cond.code (pm_yn 40) (pm_cc 40) (pm_nl 40) (pm_rt 40) ∈ wG := wG_in 476 (by decide +kernel) rfl
theorem hd40 : (pm_yn 40).cls ≠ "java/lang/invoke/MethodHandle" ∧ (pm_yn 40).cls ≠ "java/lang/invoke/VarHandle" ∧ (parseMethodDescriptor (pm_yn 40).desc).map (fun d => d.parameters.length) = some 0 := by decide +kernel
theorem cw44 : Cond.code (pm_yn 44) (pm_cc 44) (pm_nl 44) (pm_rt 44) ∈ wG := wG_in 503 (by decide +kernel) rfl
theorem hd44 : (pm_yn 44).cls ≠ "java/lang/invoke/MethodHandle" ∧ (pm_yn 44).cls ≠ "java/lang/invoke/VarHandle" ∧ (parseMethodDescriptor (pm_yn 44).desc).map (fun d => d.parameters.length) = some 0 := by decide +kernel
theorem cw46 : Cond.code (pm_yn 46) (pm_cc 46) (pm_nl 46) (pm_rt 46) ∈ wG := wG_in 378 (by decide +kernel) rfl
theorem hd46 : (pm_yn 46).cls ≠ "java/lang/invoke/MethodHandle" ∧ (pm_yn 46).cls ≠ "java/lang/invoke/VarHandle" ∧ (parseMethodDescriptor (pm_yn 46).desc).map (fun d => d.parameters.length) = some 1 := by decide +kernel
theorem cw20 : Cond.code (pm_yn 20) (pm_cc 20) (pm_nl 20) (pm_rt 20) ∈ wG := wG_in 390 (by decide +kernel) rfl
theorem hd20 : (pm_yn 20).cls ≠ "java/lang/invoke/MethodHandle" ∧ (pm_yn 20).cls ≠ "java/lang/invoke/VarHandle" ∧ (parseMethodDescriptor (pm_yn 20).desc).map (fun d => d.parameters.length) = some 1 := by decide +kernel
theorem cw21 : Cond.code (pm_yn 21) (pm_cc 21) (pm_nl 21) (pm_rt 21) ∈ wG := wG_in 394 (by decide +kernel) rfl
theorem hd21 : (pm_yn 21).cls ≠ "java/lang/invoke/MethodHandle" ∧ (pm_yn 21).cls ≠ "java/lang/invoke/VarHandle" ∧ (parseMethodDescriptor (pm_yn 21).desc).map (fun d => d.parameters.length) = some 1 := by decide +kernel
theorem cw19 : Cond.code (pm_yn 19) (pm_cc 19) (pm_nl 19) (pm_rt 19) ∈ wG := wG_in 402 (by decide +kernel) rfl
theorem hd19 : (pm_yn 19).cls ≠ "java/lang/invoke/MethodHandle" ∧ (pm_yn 19).cls ≠ "java/lang/invoke/VarHandle" ∧ (parseMethodDescriptor (pm_yn 19).desc).map (fun d => d.parameters.length) = some 1 := by decide +kernel
theorem cw18 : Cond.code (pm_yn 18) (pm_cc 18) (pm_nl 18) (pm_rt 18) ∈ wG := wG_in 419 (by decide +kernel) rfl
theorem hd18 : (pm_yn 18).cls ≠ "java/lang/invoke/MethodHandle" ∧ (pm_yn 18).cls ≠ "java/lang/invoke/VarHandle" ∧ (parseMethodDescriptor (pm_yn 18).desc).map (fun d => d.parameters.length) = some 1 := by decide +kernel
theorem cw9 : Cond.code (pm_yn 9) (pm_cc 9) (pm_nl 9) (pm_rt 9) ∈ wG := wG_in 423 (by decide +kernel) rfl
theorem hd9 : (pm_yn 9).cls ≠ "java/lang/invoke/MethodHandle" ∧ (pm_yn 9).cls ≠ "java/lang/invoke/VarHandle" ∧ (parseMethodDescriptor (pm_yn 9).desc).map (fun d => d.parameters.length) = some 0 := by decide +kernel
theorem cw10 : Cond.code (pm_yn 10) (pm_cc 10) (pm_nl 10) (pm_rt 10) ∈ wG := wG_in 440 (by decide +kernel) rfl
theorem hd10 : (pm_yn 10).cls ≠ "java/lang/invoke/MethodHandle" ∧ (pm_yn 10).cls ≠ "java/lang/invoke/VarHandle" ∧ (parseMethodDescriptor (pm_yn 10).desc).map (fun d => d.parameters.length) = some 0 := by decide +kernel
theorem cw12 : Cond.code (pm_yn 12) (pm_cc 12) (pm_nl 12) (pm_rt 12) ∈ wG := wG_in 444 (by decide +kernel) rfl
theorem hd12 : (pm_yn 12).cls ≠ "java/lang/invoke/MethodHandle" ∧ (pm_yn 12).cls ≠ "java/lang/invoke/VarHandle" ∧ (parseMethodDescriptor (pm_yn 12).desc).map (fun d => d.parameters.length) = some 0 := by decide +kernel
theorem cw13 : Cond.code (pm_yn 13) (pm_cc 13) (pm_nl 13) (pm_rt 13) ∈ wG := wG_in 448 (by decide +kernel) rfl
theorem hd13 : (pm_yn 13).cls ≠ "java/lang/invoke/MethodHandle" ∧ (pm_yn 13).cls ≠ "java/lang/invoke/VarHandle" ∧ (parseMethodDescriptor (pm_yn 13).desc).map (fun d => d.parameters.length) = some 1 := by decide +kernel
theorem cw11 : Cond.code (pm_yn 11) (pm_cc 11) (pm_nl 11) (pm_rt 11) ∈ wG := wG_in 472 (by decide +kernel) rfl
theorem hd11 : (pm_yn 11).cls ≠ "java/lang/invoke/MethodHandle" ∧ (pm_yn 11).cls ≠ "java/lang/invoke/VarHandle" ∧ (parseMethodDescriptor (pm_yn 11).desc).map (fun d => d.parameters.length) = some 0 := by decide +kernel
theorem cw41 : Cond.code (pm_yn 41) (pm_cc 41) (pm_nl 41) (pm_rt 41) ∈ wG := wG_in 480 (by decide +kernel) rfl
theorem hd41 : (pm_yn 41).cls ≠ "java/lang/invoke/MethodHandle" ∧ (pm_yn 41).cls ≠ "java/lang/invoke/VarHandle" ∧ (parseMethodDescriptor (pm_yn 41).desc).map (fun d => d.parameters.length) = some 1 := by decide +kernel
theorem cw42 : Cond.code (pm_yn 42) (pm_cc 42) (pm_nl 42) (pm_rt 42) ∈ wG := wG_in 491 (by decide +kernel) rfl
theorem hd42 : (pm_yn 42).cls ≠ "java/lang/invoke/MethodHandle" ∧ (pm_yn 42).cls ≠ "java/lang/invoke/VarHandle" ∧ (parseMethodDescriptor (pm_yn 42).desc).map (fun d => d.parameters.length) = some 0 := by decide +kernel
theorem cw131 : Cond.code (pm_yn 131) (pm_cc 131) (pm_nl 131) (pm_rt 131) ∈ wG := wG_in 483 (by decide +kernel) rfl
theorem hd131 : (pm_yn 131).cls ≠ "java/lang/invoke/MethodHandle" ∧ (pm_yn 131).cls ≠ "java/lang/invoke/VarHandle" ∧ (parseMethodDescriptor (pm_yn 131).desc).map (fun d => d.parameters.length) = some 2 := by decide +kernel
theorem cw8 : Cond.code (pm_yn 8) (pm_cc 8) (pm_nl 8) (pm_rt 8) ∈ wG := wG_in 495 (by decide +kernel) rfl
theorem hd8 : (pm_yn 8).cls ≠ "java/lang/invoke/MethodHandle" ∧ (pm_yn 8).cls ≠ "java/lang/invoke/VarHandle" ∧ (parseMethodDescriptor (pm_yn 8).desc).map (fun d => d.parameters.length) = some 3 := by decide +kernel
theorem cw43 : Cond.code (pm_yn 43) (pm_cc 43) (pm_nl 43) (pm_rt 43) ∈ wG := wG_in 499 (by decide +kernel) rfl
theorem hd43 : (pm_yn 43).cls ≠ "java/lang/invoke/MethodHandle" ∧ (pm_yn 43).cls ≠ "java/lang/invoke/VarHandle" ∧ (parseMethodDescriptor (pm_yn 43).desc).map (fun d => d.parameters.length) = some 1 := by decide +kernel
theorem cw49 : Cond.code (pm_yn 49) (pm_cc 49) (pm_nl 49) (pm_rt 49) ∈ wG := wG_in 487 (by decide +kernel) rfl
theorem hd49 : (pm_yn 49).cls ≠ "java/lang/invoke/MethodHandle" ∧ (pm_yn 49).cls ≠ "java/lang/invoke/VarHandle" ∧ (parseMethodDescriptor (pm_yn 49).desc).map (fun d => d.parameters.length) = some 0 := by decide +kernel
theorem cw5 : Cond.code (pm_yn 5) (pm_cc 5) (pm_nl 5) (pm_rt 5) ∈ wG := wG_in 112 (by decide +kernel) rfl
theorem hd5 : (pm_yn 5).cls ≠ "java/lang/invoke/MethodHandle" ∧ (pm_yn 5).cls ≠ "java/lang/invoke/VarHandle" ∧ (parseMethodDescriptor (pm_yn 5).desc).map (fun d => d.parameters.length) = some 0 := by decide +kernel
theorem cw6 : Cond.code (pm_yn 6) (pm_cc 6) (pm_nl 6) (pm_rt 6) ∈ wG := wG_in 382 (by decide +kernel) rfl
theorem hd6 : (pm_yn 6).cls ≠ "java/lang/invoke/MethodHandle" ∧ (pm_yn 6).cls ≠ "java/lang/invoke/VarHandle" ∧ (parseMethodDescriptor (pm_yn 6).desc).map (fun d => d.parameters.length) = some 0 := by decide +kernel
theorem cw7 : Cond.code (pm_yn 7) (pm_cc 7) (pm_nl 7) (pm_rt 7) ∈ wG := wG_in 733 (by decide +kernel) rfl
theorem hd7 : (pm_yn 7).cls ≠ "java/lang/invoke/MethodHandle" ∧ (pm_yn 7).cls ≠ "java/lang/invoke/VarHandle" ∧ (parseMethodDescriptor (pm_yn 7).desc).map (fun d => d.parameters.length) = some 1 := by decide +kernel
theorem cw14 : Cond.code (pm_yn 14) (pm_cc 14) (pm_nl 14) (pm_rt 14) ∈ wG := wG_in 76 (by decide +kernel) rfl
theorem hd14 : (pm_yn 14).cls ≠ "java/lang/invoke/MethodHandle" ∧ (pm_yn 14).cls ≠ "java/lang/invoke/VarHandle" ∧ (parseMethodDescriptor (pm_yn 14).desc).map (fun d => d.parameters.length) = some 0 := by decide +kernel
theorem cw22 : Cond.code (pm_yn 22) (pm_cc 22) (pm_nl 22) (pm_rt 22) ∈ wG := wG_in 720 (by decide +kernel) rfl
theorem hd22 : (pm_yn 22).cls ≠ "java/lang/invoke/MethodHandle" ∧ (pm_yn 22).cls ≠ "java/lang/invoke/VarHandle" ∧ (parseMethodDescriptor (pm_yn 22).desc).map (fun d => d.parameters.length) = some 0 := by decide +kernel
theorem cw16 : Cond.code (pm_yn 16) (pm_cc 16) (pm_nl 16) (pm_rt 16) ∈ wG := wG_in 724 (by decide +kernel) rfl
theorem hd16 : (pm_yn 16).cls ≠ "java/lang/invoke/MethodHandle" ∧ (pm_yn 16).cls ≠ "java/lang/invoke/VarHandle" ∧ (parseMethodDescriptor (pm_yn 16).desc).map (fun d => d.parameters.length) = some 1 := by decide +kernel
theorem cw26 : Cond.code (pm_yn 26) (pm_cc 26) (pm_nl 26) (pm_rt 26) ∈ wG := wG_in 737 (by decide +kernel) rfl
theorem hd26 : (pm_yn 26).cls ≠ "java/lang/invoke/MethodHandle" ∧ (pm_yn 26).cls ≠ "java/lang/invoke/VarHandle" ∧ (parseMethodDescriptor (pm_yn 26).desc).map (fun d => d.parameters.length) = some 0 := by decide +kernel
theorem cw27 : Cond.code (pm_yn 27) (pm_cc 27) (pm_nl 27) (pm_rt 27) ∈ wG := wG_in 743 (by decide +kernel) rfl
theorem hd27 : (pm_yn 27).cls ≠ "java/lang/invoke/MethodHandle" ∧ (pm_yn 27).cls ≠ "java/lang/invoke/VarHandle" ∧ (parseMethodDescriptor (pm_yn 27).desc).map (fun d => d.parameters.length) = some 1 := by decide +kernel
theorem cw15 : Cond.code (pm_yn 15) (pm_cc 15) (pm_nl 15) (pm_rt 15) ∈ wG := wG_in 758 (by decide +kernel) rfl
theorem hd15 : (pm_yn 15).cls ≠ "java/lang/invoke/MethodHandle" ∧ (pm_yn 15).cls ≠ "java/lang/invoke/VarHandle" ∧ (parseMethodDescriptor (pm_yn 15).desc).map (fun d => d.parameters.length) = some 0 := by decide +kernel
theorem cw1 : Cond.code (pm_yn 1) (pm_cc 1) (pm_nl 1) (pm_rt 1) ∈ wG := wG_in 762 (by decide +kernel) rfl
theorem hd1 : (pm_yn 1).cls ≠ "java/lang/invoke/MethodHandle" ∧ (pm_yn 1).cls ≠ "java/lang/invoke/VarHandle" ∧ (parseMethodDescriptor (pm_yn 1).desc).map (fun d => d.parameters.length) = some 1 := by decide +kernel
theorem cw17 : Cond.code (pm_yn 17) (pm_cc 17) (pm_nl 17) (pm_rt 17) ∈ wG := wG_in 370 (by decide +kernel) rfl
theorem hd17 : (pm_yn 17).cls ≠ "java/lang/invoke/MethodHandle" ∧ (pm_yn 17).cls ≠ "java/lang/invoke/VarHandle" ∧ (parseMethodDescriptor (pm_yn 17).desc).map (fun d => d.parameters.length) = some 4 := by decide +kernel
theorem cw64 : Cond.code (pm_yn 64) (pm_cc 64) (pm_nl 64) (pm_rt 64) ∈ wG := wG_in 552 (by decide +kernel) rfl
theorem hd64 : (pm_yn 64).cls ≠ "java/lang/invoke/MethodHandle" ∧ (pm_yn 64).cls ≠ "java/lang/invoke/VarHandle" ∧ (parseMethodDescriptor (pm_yn 64).desc).map (fun d => d.parameters.length) = some 2 := by decide +kernel
theorem cw133 : Cond.code (pm_yn 133) (pm_cc 133) (pm_nl 133) (pm_rt 133) ∈ wG := wG_in 555 (by decide +kernel) rfl
theorem hd133 : (pm_yn 133).cls ≠ "java/lang/invoke/MethodHandle" ∧ (pm_yn 133).cls ≠ "java/lang/invoke/VarHandle" ∧ (parseMethodDescriptor (pm_yn 133).desc).map (fun d => d.parameters.length) = some 1 := by decide +kernel
theorem cw65 : Cond.code (pm_yn 65) (pm_cc 65) (pm_nl 65) (pm_rt 65) ∈ wG := wG_in 643 (by decide +kernel) rfl
theorem hd65 : (pm_yn 65).cls ≠ "java/lang/invoke/MethodHandle" ∧ (pm_yn 65).cls ≠ "java/lang/invoke/VarHandle" ∧ (parseMethodDescriptor (pm_yn 65).desc).map (fun d => d.parameters.length) = some 2 := by decide +kernel
theorem cw2 : Cond.code (pm_yn 2) (pm_cc 2) (pm_nl 2) (pm_rt 2) ∈ wG := wG_in 248 (by decide +kernel) rfl
theorem hd2 : (pm_yn 2).cls ≠ "java/lang/invoke/MethodHandle" ∧ (pm_yn 2).cls ≠ "java/lang/invoke/VarHandle" ∧ (parseMethodDescriptor (pm_yn 2).desc).map (fun d => d.parameters.length) = some 0 := by decide +kernel
theorem cw57 : Cond.code (pm_yn 57) (pm_cc 57) (pm_nl 57) (pm_rt 57) ∈ wG := wG_in 270 (by decide +kernel) rfl
theorem hd57 : (pm_yn 57).cls ≠ "java/lang/invoke/MethodHandle" ∧ (pm_yn 57).cls ≠ "java/lang/invoke/VarHandle" ∧ (parseMethodDescriptor (pm_yn 57).desc).map (fun d => d.parameters.length) = some 0 := by decide +kernel
theorem cw61 : Cond.code (pm_yn 61) (pm_cc 61) (pm_nl 61) (pm_rt 61) ∈ wG := wG_in 285 (by decide +kernel) rfl
theorem hd61 : (pm_yn 61).cls ≠ "java/lang/invoke/MethodHandle" ∧ (pm_yn 61).cls ≠ "java/lang/invoke/VarHandle" ∧ (parseMethodDescriptor (pm_yn 61).desc).map (fun d => d.parameters.length) = some 0 := by decide +kernel
theorem cw54 : Cond.code (pm_yn 54) (pm_cc 54) (pm_nl 54) (pm_rt 54) ∈ wG := wG_in 298 (by decide +kernel) rfl
theorem hd54 : (pm_yn 54).cls ≠ "java/lang/invoke/MethodHandle" ∧ (pm_yn 54).cls ≠ "java/lang/invoke/VarHandle" ∧ (parseMethodDescriptor (pm_yn 54).desc).map (fun d => d.parameters.length) = some 0 := by decide +kernel
theorem cw52 : Cond.code (pm_yn 52) (pm_cc 52) (pm_nl 52) (pm_rt 52) ∈ wG := wG_in 316 (by decide +kernel) rfl
theorem hd52 : (pm_yn 52).cls ≠ "java/lang/invoke/MethodHandle" ∧ (pm_yn 52).cls ≠ "java/lang/invoke/VarHandle" ∧ (parseMethodDescriptor (pm_yn 52).desc).map (fun d => d.parameters.length) = some 0 := by decide +kernel
theorem cw58 : Cond.code (pm_yn 58) (pm_cc 58) (pm_nl 58) (pm_rt 58) ∈ wG := wG_in 350 (by decide +kernel) rfl
theorem hd58 : (pm_yn 58).cls ≠ "java/lang/invoke/MethodHandle" ∧ (pm_yn 58).cls ≠ "java/lang/invoke/VarHandle" ∧ (parseMethodDescriptor (pm_yn 58).desc).map (fun d => d.parameters.length) = some 0 := by decide +kernel
theorem cw60 : Cond.code (pm_yn 60) (pm_cc 60) (pm_nl 60) (pm_rt 60) ∈ wG := wG_in 354 (by decide +kernel) rfl
theorem hd60 : (pm_yn 60).cls ≠ "java/lang/invoke/MethodHandle" ∧ (pm_yn 60).cls ≠ "java/lang/invoke/VarHandle" ∧ (parseMethodDescriptor (pm_yn 60).desc).map (fun d => d.parameters.length) = some 1 := by decide +kernel
theorem cw83 : Cond.code (pm_yn 83) (pm_cc 83) (pm_nl 83) (pm_rt 83) ∈ wG := wG_in 362 (by decide +kernel) rfl
theorem hd83 : (pm_yn 83).cls ≠ "java/lang/invoke/MethodHandle" ∧ (pm_yn 83).cls ≠ "java/lang/invoke/VarHandle" ∧ (parseMethodDescriptor (pm_yn 83).desc).map (fun d => d.parameters.length) = some 4 := by decide +kernel
theorem cw3 : Cond.code (pm_yn 3) (pm_cc 3) (pm_nl 3) (pm_rt 3) ∈ wG := wG_in 366 (by decide +kernel) rfl
theorem hd3 : (pm_yn 3).cls ≠ "java/lang/invoke/MethodHandle" ∧ (pm_yn 3).cls ≠ "java/lang/invoke/VarHandle" ∧ (parseMethodDescriptor (pm_yn 3).desc).map (fun d => d.parameters.length) = some 0 := by decide +kernel
theorem cw59 : Cond.code (pm_yn 59) (pm_cc 59) (pm_nl 59) (pm_rt 59) ∈ wG := wG_in 539 (by decide +kernel) rfl
theorem hd59 : (pm_yn 59).cls ≠ "java/lang/invoke/MethodHandle" ∧ (pm_yn 59).cls ≠ "java/lang/invoke/VarHandle" ∧ (parseMethodDescriptor (pm_yn 59).desc).map (fun d => d.parameters.length) = some 1 := by decide +kernel
theorem cw62 : Cond.code (pm_yn 62) (pm_cc 62) (pm_nl 62) (pm_rt 62) ∈ wG := wG_in 544 (by decide +kernel) rfl
theorem hd62 : (pm_yn 62).cls ≠ "java/lang/invoke/MethodHandle" ∧ (pm_yn 62).cls ≠ "java/lang/invoke/VarHandle" ∧ (parseMethodDescriptor (pm_yn 62).desc).map (fun d => d.parameters.length) = some 2 := by decide +kernel
theorem cw63 : Cond.code (pm_yn 63) (pm_cc 63) (pm_nl 63) (pm_rt 63) ∈ wG := wG_in 652 (by decide +kernel) rfl
theorem hd63 : (pm_yn 63).cls ≠ "java/lang/invoke/MethodHandle" ∧ (pm_yn 63).cls ≠ "java/lang/invoke/VarHandle" ∧ (parseMethodDescriptor (pm_yn 63).desc).map (fun d => d.parameters.length) = some 0 := by decide +kernel
theorem cw25 : Cond.code (pm_yn 25) (pm_cc 25) (pm_nl 25) (pm_rt 25) ∈ wG := wG_in 701 (by decide +kernel) rfl
theorem hd25 : (pm_yn 25).cls ≠ "java/lang/invoke/MethodHandle" ∧ (pm_yn 25).cls ≠ "java/lang/invoke/VarHandle" ∧ (parseMethodDescriptor (pm_yn 25).desc).map (fun d => d.parameters.length) = some 1 := by decide +kernel
theorem cw53 : Cond.code (pm_yn 53) (pm_cc 53) (pm_nl 53) (pm_rt 53) ∈ wG := wG_in 716 (by decide +kernel) rfl
theorem hd53 : (pm_yn 53).cls ≠ "java/lang/invoke/MethodHandle" ∧ (pm_yn 53).cls ≠ "java/lang/invoke/VarHandle" ∧ (parseMethodDescriptor (pm_yn 53).desc).map (fun d => d.parameters.length) = some 1 := by decide +kernel
theorem cw55 : Cond.code (pm_yn 55) (pm_cc 55) (pm_nl 55) (pm_rt 55) ∈ wG := wG_in 754 (by decide +kernel) rfl
theorem hd55 : (pm_yn 55).cls ≠ "java/lang/invoke/MethodHandle" ∧ (pm_yn 55).cls ≠ "java/lang/invoke/VarHandle" ∧ (parseMethodDescriptor (pm_yn 55).desc).map (fun d => d.parameters.length) = some 2 := by decide +kernel
theorem cw23 : Cond.code (pm_yn 23) (pm_cc 23) (pm_nl 23) (pm_rt 23) ∈ wG := wG_in 771 (by decide +kernel) rfl
theorem hd23 : (pm_yn 23).cls ≠ "java/lang/invoke/MethodHandle" ∧ (pm_yn 23).cls ≠ "java/lang/invoke/VarHandle" ∧ (parseMethodDescriptor (pm_yn 23).desc).map (fun d => d.parameters.length) = some 0 := by decide +kernel
theorem cw24 : Cond.code (pm_yn 24) (pm_cc 24) (pm_nl 24) (pm_rt 24) ∈ wG := wG_in 775 (by decide +kernel) rfl
theorem hd24 : (pm_yn 24).cls ≠ "java/lang/invoke/MethodHandle" ∧ (pm_yn 24).cls ≠ "java/lang/invoke/VarHandle" ∧ (parseMethodDescriptor (pm_yn 24).desc).map (fun d => d.parameters.length) = some 0 := by decide +kernel
theorem cw0 : Cond.code (pm_yn 0) (pm_cc 0) (pm_nl 0) (pm_rt 0) ∈ wG := wG_in 508 (by decide +kernel) rfl
theorem hd0 : (pm_yn 0).cls ≠ "java/lang/invoke/MethodHandle" ∧ (pm_yn 0).cls ≠ "java/lang/invoke/VarHandle" ∧ (parseMethodDescriptor (pm_yn 0).desc).map (fun d => d.parameters.length) = some 4 := by decide +kernel
theorem cw4 : Cond.code (pm_yn 4) (pm_cc 4) (pm_nl 4) (pm_rt 4) ∈ wG := wG_in 531 (by decide +kernel) rfl
theorem hd4 : (pm_yn 4).cls ≠ "java/lang/invoke/MethodHandle" ∧ (pm_yn 4).cls ≠ "java/lang/invoke/VarHandle" ∧ (parseMethodDescriptor (pm_yn 4).desc).map (fun d => d.parameters.length) = some 1 := by decide +kernel
theorem cw86 : Cond.code (pm_yn 86) (pm_cc 86) (pm_nl 86) (pm_rt 86) ∈ wG := wG_in 785 (by decide +kernel) rfl
theorem hd86 : (pm_yn 86).cls ≠ "java/lang/invoke/MethodHandle" ∧ (pm_yn 86).cls ≠ "java/lang/invoke/VarHandle" ∧ (parseMethodDescriptor (pm_yn 86).desc).map (fun d => d.parameters.length) = some 1 := by decide +kernel
theorem cw85 : Cond.code (pm_yn 85) (pm_cc 85) (pm_nl 85) (pm_rt 85) ∈ wG := wG_in 788 (by decide +kernel) rfl
theorem hd85 : (pm_yn 85).cls ≠ "java/lang/invoke/MethodHandle" ∧ (pm_yn 85).cls ≠ "java/lang/invoke/VarHandle" ∧ (parseMethodDescriptor (pm_yn 85).desc).map (fun d => d.parameters.length) = some 2 := by decide +kernel
theorem cw90 : Cond.code (pm_yn 90) (pm_cc 90) (pm_nl 90) (pm_rt 90) ∈ wG := wG_in 954 (by decide +kernel) rfl
theorem hd90 : (pm_yn 90).cls ≠ "java/lang/invoke/MethodHandle" ∧ (pm_yn 90).cls ≠ "java/lang/invoke/VarHandle" ∧ (parseMethodDescriptor (pm_yn 90).desc).map (fun d => d.parameters.length) = some 1 := by decide +kernel
theorem cw92 : Cond.code (pm_yn 92) (pm_cc 92) (pm_nl 92) (pm_rt 92) ∈ wG := wG_in 950 (by decide +kernel) rfl
theorem hd92 : (pm_yn 92).cls ≠ "java/lang/invoke/MethodHandle" ∧ (pm_yn 92).cls ≠ "java/lang/invoke/VarHandle" ∧ (parseMethodDescriptor (pm_yn 92).desc).map (fun d => d.parameters.length) = some 1 := by decide +kernel
theorem cw94 : Cond.code (pm_yn 94) (pm_cc 94) (pm_nl 94) (pm_rt 94) ∈ wG := wG_in 992 (by decide +kernel) rfl
theorem hd94 : (pm_yn 94).cls ≠ "java/lang/invoke/MethodHandle" ∧ (pm_yn 94).cls ≠ "java/lang/invoke/VarHandle" ∧ (parseMethodDescriptor (pm_yn 94).desc).map (fun d => d.parameters.length) = some 2 := by decide +kernel
theorem cw93 : Cond.code (pm_yn 93) (pm_cc 93) (pm_nl 93) (pm_rt 93) ∈ wG := wG_in 946 (by decide +kernel) rfl
theorem hd93 : (pm_yn 93).cls ≠ "java/lang/invoke/MethodHandle" ∧ (pm_yn 93).cls ≠ "java/lang/invoke/VarHandle" ∧ (parseMethodDescriptor (pm_yn 93).desc).map (fun d => d.parameters.length) = some 2 := by decide +kernel
theorem cw95 : Cond.code (pm_yn 95) (pm_cc 95) (pm_nl 95) (pm_rt 95) ∈ wG := wG_in 988 (by decide +kernel) rfl
theorem hd95 : (pm_yn 95).cls ≠ "java/lang/invoke/MethodHandle" ∧ (pm_yn 95).cls ≠ "java/lang/invoke/VarHandle" ∧ (parseMethodDescriptor (pm_yn 95).desc).map (fun d => d.parameters.length) = some 1 := by decide +kernel
theorem cw88 : Cond.code (pm_yn 88) (pm_cc 88) (pm_nl 88) (pm_rt 88) ∈ wG := wG_in 972 (by decide +kernel) rfl
theorem hd88 : (pm_yn 88).cls ≠ "java/lang/invoke/MethodHandle" ∧ (pm_yn 88).cls ≠ "java/lang/invoke/VarHandle" ∧ (parseMethodDescriptor (pm_yn 88).desc).map (fun d => d.parameters.length) = some 1 := by decide +kernel
theorem cw89 : Cond.code (pm_yn 89) (pm_cc 89) (pm_nl 89) (pm_rt 89) ∈ wG := wG_in 976 (by decide +kernel) rfl
theorem hd89 : (pm_yn 89).cls ≠ "java/lang/invoke/MethodHandle" ∧ (pm_yn 89).cls ≠ "java/lang/invoke/VarHandle" ∧ (parseMethodDescriptor (pm_yn 89).desc).map (fun d => d.parameters.length) = some 1 := by decide +kernel
theorem cw91 : Cond.code (pm_yn 91) (pm_cc 91) (pm_nl 91) (pm_rt 91) ∈ wG := wG_in 980 (by decide +kernel) rfl
theorem hd91 : (pm_yn 91).cls ≠ "java/lang/invoke/MethodHandle" ∧ (pm_yn 91).cls ≠ "java/lang/invoke/VarHandle" ∧ (parseMethodDescriptor (pm_yn 91).desc).map (fun d => d.parameters.length) = some 1 := by decide +kernel
theorem cw96 : Cond.code (pm_yn 96) (pm_cc 96) (pm_nl 96) (pm_rt 96) ∈ wG := wG_in 984 (by decide +kernel) rfl
theorem hd96 : (pm_yn 96).cls ≠ "java/lang/invoke/MethodHandle" ∧ (pm_yn 96).cls ≠ "java/lang/invoke/VarHandle" ∧ (parseMethodDescriptor (pm_yn 96).desc).map (fun d => d.parameters.length) = some 1 := by decide +kernel
theorem cw97 : Cond.code (pm_yn 97) (pm_cc 97) (pm_nl 97) (pm_rt 97) ∈ wG := wG_in 996 (by decide +kernel) rfl
theorem hd97 : (pm_yn 97).cls ≠ "java/lang/invoke/MethodHandle" ∧ (pm_yn 97).cls ≠ "java/lang/invoke/VarHandle" ∧ (parseMethodDescriptor (pm_yn 97).desc).map (fun d => d.parameters.length) = some 1 := by decide +kernel
theorem cw99 : Cond.code (pm_yn 99) (pm_cc 99) (pm_nl 99) (pm_rt 99) ∈ wG := wG_in 942 (by decide +kernel) rfl
theorem hd99 : (pm_yn 99).cls ≠ "java/lang/invoke/MethodHandle" ∧ (pm_yn 99).cls ≠ "java/lang/invoke/VarHandle" ∧ (parseMethodDescriptor (pm_yn 99).desc).map (fun d => d.parameters.length) = some 2 := by decide +kernel
theorem cw100 : Cond.code (pm_yn 100) (pm_cc 100) (pm_nl 100) (pm_rt 100) ∈ wG := wG_in 938 (by decide +kernel) rfl
theorem hd100 : (pm_yn 100).cls ≠ "java/lang/invoke/MethodHandle" ∧ (pm_yn 100).cls ≠ "java/lang/invoke/VarHandle" ∧ (parseMethodDescriptor (pm_yn 100).desc).map (fun d => d.parameters.length) = some 2 := by decide +kernel
theorem cw102 : Cond.code (pm_yn 102) (pm_cc 102) (pm_nl 102) (pm_rt 102) ∈ wG := wG_in 930 (by decide +kernel) rfl
theorem hd102 : (pm_yn 102).cls ≠ "java/lang/invoke/MethodHandle" ∧ (pm_yn 102).cls ≠ "java/lang/invoke/VarHandle" ∧ (parseMethodDescriptor (pm_yn 102).desc).map (fun d => d.parameters.length) = some 2 := by decide +kernel
theorem cw101 : Cond.code (pm_yn 101) (pm_cc 101) (pm_nl 101) (pm_rt 101) ∈ wG := wG_in 934 (by decide +kernel) rfl
theorem hd101 : (pm_yn 101).cls ≠ "java/lang/invoke/MethodHandle" ∧ (pm_yn 101).cls ≠ "java/lang/invoke/VarHandle" ∧ (parseMethodDescriptor (pm_yn 101).desc).map (fun d => d.parameters.length) = some 2 := by decide +kernel
theorem cw103 : Cond.code (pm_yn 103) (pm_cc 103) (pm_nl 103) (pm_rt 103) ∈ wG := wG_in 958 (by decide +kernel) rfl
theorem hd103 : (pm_yn 103).cls ≠ "java/lang/invoke/MethodHandle" ∧ (pm_yn 103).cls ≠ "java/lang/invoke/VarHandle" ∧ (parseMethodDescriptor (pm_yn 103).desc).map (fun d => d.parameters.length) = some 2 := by decide +kernel
theorem cw104 : Cond.code (pm_yn 104) (pm_cc 104) (pm_nl 104) (pm_rt 104) ∈ wG := wG_in 964 (by decide +kernel) rfl
theorem hd104 : (pm_yn 104).cls ≠ "java/lang/invoke/MethodHandle" ∧ (pm_yn 104).cls ≠ "java/lang/invoke/VarHandle" ∧ (parseMethodDescriptor (pm_yn 104).desc).map (fun d => d.parameters.length) = some 2 := by decide +kernel
theorem cw98 : Cond.code (pm_yn 98) (pm_cc 98) (pm_nl 98) (pm_rt 98) ∈ wG := wG_in 968 (by decide +kernel) rfl
theorem hd98 : (pm_yn 98).cls ≠ "java/lang/invoke/MethodHandle" ∧ (pm_yn 98).cls ≠ "java/lang/invoke/VarHandle" ∧ (parseMethodDescriptor (pm_yn 98).desc).map (fun d => d.parameters.length) = some 1 := by decide +kernel
theorem cw105 : Cond.code (pm_yn 105) (pm_cc 105) (pm_nl 105) (pm_rt 105) ∈ wG := wG_in 926 (by decide +kernel) rfl
theorem hd105 : (pm_yn 105).cls ≠ "java/lang/invoke/MethodHandle" ∧ (pm_yn 105).cls ≠ "java/lang/invoke/VarHandle" ∧ (parseMethodDescriptor (pm_yn 105).desc).map (fun d => d.parameters.length) = some 5 := by decide +kernel
theorem cw106 : Cond.code (pm_yn 106) (pm_cc 106) (pm_nl 106) (pm_rt 106) ∈ wG := wG_in 922 (by decide +kernel) rfl
theorem hd106 : (pm_yn 106).cls ≠ "java/lang/invoke/MethodHandle" ∧ (pm_yn 106).cls ≠ "java/lang/invoke/VarHandle" ∧ (parseMethodDescriptor (pm_yn 106).desc).map (fun d => d.parameters.length) = some 3 := by decide +kernel
theorem cw115 : Cond.code (pm_yn 115) (pm_cc 115) (pm_nl 115) (pm_rt 115) ∈ wG := wG_in 1033 (by decide +kernel) rfl
theorem hd115 : (pm_yn 115).cls ≠ "java/lang/invoke/MethodHandle" ∧ (pm_yn 115).cls ≠ "java/lang/invoke/VarHandle" ∧ (parseMethodDescriptor (pm_yn 115).desc).map (fun d => d.parameters.length) = some 1 := by decide +kernel
theorem cw117 : Cond.code (pm_yn 117) (pm_cc 117) (pm_nl 117) (pm_rt 117) ∈ wG := wG_in 1044 (by decide +kernel) rfl
theorem hd117 : (pm_yn 117).cls ≠ "java/lang/invoke/MethodHandle" ∧ (pm_yn 117).cls ≠ "java/lang/invoke/VarHandle" ∧ (parseMethodDescriptor (pm_yn 117).desc).map (fun d => d.parameters.length) = some 1 := by decide +kernel
theorem cw119 : Cond.code (pm_yn 119) (pm_cc 119) (pm_nl 119) (pm_rt 119) ∈ wG := wG_in 1048 (by decide +kernel) rfl
theorem hd119 : (pm_yn 119).cls ≠ "java/lang/invoke/MethodHandle" ∧ (pm_yn 119).cls ≠ "java/lang/invoke/VarHandle" ∧ (parseMethodDescriptor (pm_yn 119).desc).map (fun d => d.parameters.length) = some 2 := by decide +kernel
theorem cw118 : Cond.code (pm_yn 118) (pm_cc 118) (pm_nl 118) (pm_rt 118) ∈ wG := wG_in 1051 (by decide +kernel) rfl
theorem hd118 : (pm_yn 118).cls ≠ "java/lang/invoke/MethodHandle" ∧ (pm_yn 118).cls ≠ "java/lang/invoke/VarHandle" ∧ (parseMethodDescriptor (pm_yn 118).desc).map (fun d => d.parameters.length) = some 2 := by decide +kernel
theorem cw120 : Cond.code (pm_yn 120) (pm_cc 120) (pm_nl 120) (pm_rt 120) ∈ wG := wG_in 1041 (by decide +kernel) rfl
theorem hd120 : (pm_yn 120).cls ≠ "java/lang/invoke/MethodHandle" ∧ (pm_yn 120).cls ≠ "java/lang/invoke/VarHandle" ∧ (parseMethodDescriptor (pm_yn 120).desc).map (fun d => d.parameters.length) = some 1 := by decide +kernel
theorem cw87 : Cond.code (pm_yn 87) (pm_cc 87) (pm_nl 87) (pm_rt 87) ∈ wG := wG_in 1075 (by decide +kernel) rfl
theorem hd87 : (pm_yn 87).cls ≠ "java/lang/invoke/MethodHandle" ∧ (pm_yn 87).cls ≠ "java/lang/invoke/VarHandle" ∧ (parseMethodDescriptor (pm_yn 87).desc).map (fun d => d.parameters.length) = some 2 := by decide +kernel
theorem cw125 : Cond.code (pm_yn 125) (pm_cc 125) (pm_nl 125) (pm_rt 125) ∈ wG := wG_in 1079 (by decide +kernel) rfl
theorem hd125 : (pm_yn 125).cls ≠ "java/lang/invoke/MethodHandle" ∧ (pm_yn 125).cls ≠ "java/lang/invoke/VarHandle" ∧ (parseMethodDescriptor (pm_yn 125).desc).map (fun d => d.parameters.length) = some 1 := by decide +kernel
theorem cw126 : Cond.code (pm_yn 126) (pm_cc 126) (pm_nl 126) (pm_rt 126) ∈ wG := wG_in 1071 (by decide +kernel) rfl
theorem hd126 : (pm_yn 126).cls ≠ "java/lang/invoke/MethodHandle" ∧ (pm_yn 126).cls ≠ "java/lang/invoke/VarHandle" ∧ (parseMethodDescriptor (pm_yn 126).desc).map (fun d => d.parameters.length) = some 1 := by decide +kernel
theorem cw66 : Cond.code (pm_yn 66) (pm_cc 66) (pm_nl 66) (pm_rt 66) ∈ wG := wG_in 68 (by decide +kernel) rfl
theorem hd66 : (pm_yn 66).cls ≠ "java/lang/invoke/MethodHandle" ∧ (pm_yn 66).cls ≠ "java/lang/invoke/VarHandle" ∧ (parseMethodDescriptor (pm_yn 66).desc).map (fun d => d.parameters.length) = some 0 := by decide +kernel
theorem cw84 : Cond.code (pm_yn 84) (pm_cc 84) (pm_nl 84) (pm_rt 84) ∈ wG := wG_in 780 (by decide +kernel) rfl
theorem hd84 : (pm_yn 84).cls ≠ "java/lang/invoke/MethodHandle" ∧ (pm_yn 84).cls ≠ "java/lang/invoke/VarHandle" ∧ (parseMethodDescriptor (pm_yn 84).desc).map (fun d => d.parameters.length) = some 0 := by decide +kernel
theorem cw67 : Cond.code (pm_yn 67) (pm_cc 67) (pm_nl 67) (pm_rt 67) ∈ wG := wG_in 346 (by decide +kernel) rfl
theorem hd67 : (pm_yn 67).cls ≠ "java/lang/invoke/MethodHandle" ∧ (pm_yn 67).cls ≠ "java/lang/invoke/VarHandle" ∧ (parseMethodDescriptor (pm_yn 67).desc).map (fun d => d.parameters.length) = some 5 := by decide +kernel
theorem cw116 : Cond.code (pm_yn 116) (pm_cc 116) (pm_nl 116) (pm_rt 116) ∈ wG := wG_in 1029 (by decide +kernel) rfl
theorem hd116 : (pm_yn 116).cls ≠ "java/lang/invoke/MethodHandle" ∧ (pm_yn 116).cls ≠ "java/lang/invoke/VarHandle" ∧ (parseMethodDescriptor (pm_yn 116).desc).map (fun d => d.parameters.length) = some 5 := by decide +kernel
theorem cw68 : Cond.code (pm_yn 68) (pm_cc 68) (pm_nl 68) (pm_rt 68) ∈ wG := wG_in 358 (by decide +kernel) rfl
theorem hd68 : (pm_yn 68).cls ≠ "java/lang/invoke/MethodHandle" ∧ (pm_yn 68).cls ≠ "java/lang/invoke/VarHandle" ∧ (parseMethodDescriptor (pm_yn 68).desc).map (fun d => d.parameters.length) = some 1 := by decide +kernel
theorem cw107 : Cond.code (pm_yn 107) (pm_cc 107) (pm_nl 107) (pm_rt 107) ∈ wG := wG_in 918 (by decide +kernel) rfl
theorem hd107 : (pm_yn 107).cls ≠ "java/lang/invoke/MethodHandle" ∧ (pm_yn 107).cls ≠ "java/lang/invoke/VarHandle" ∧ (parseMethodDescriptor (pm_yn 107).desc).map (fun d => d.parameters.length) = some 1 := by decide +kernel
theorem cw69 : Cond.code (pm_yn 69) (pm_cc 69) (pm_nl 69) (pm_rt 69) ∈ wG := wG_in 535 (by decide +kernel) rfl
theorem hd69 : (pm_yn 69).cls ≠ "java/lang/invoke/MethodHandle" ∧ (pm_yn 69).cls ≠ "java/lang/invoke/VarHandle" ∧ (parseMethodDescriptor (pm_yn 69).desc).map (fun d => d.parameters.length) = some 2 := by decide +kernel
theorem cw121 : Cond.code (pm_yn 121) (pm_cc 121) (pm_nl 121) (pm_rt 121) ∈ wG := wG_in 1037 (by decide +kernel) rfl
theorem hd121 : (pm_yn 121).cls ≠ "java/lang/invoke/MethodHandle" ∧ (pm_yn 121).cls ≠ "java/lang/invoke/VarHandle" ∧ (parseMethodDescriptor (pm_yn 121).desc).map (fun d => d.parameters.length) = some 2 := by decide +kernel
theorem cw70 : Cond.code (pm_yn 70) (pm_cc 70) (pm_nl 70) (pm_rt 70) ∈ wG := wG_in 659 (by decide +kernel) rfl
theorem hd70 : (pm_yn 70).cls ≠ "java/lang/invoke/MethodHandle" ∧ (pm_yn 70).cls ≠ "java/lang/invoke/VarHandle" ∧ (parseMethodDescriptor (pm_yn 70).desc).map (fun d => d.parameters.length) = some 2 := by decide +kernel
theorem cw108 : Cond.code (pm_yn 108) (pm_cc 108) (pm_nl 108) (pm_rt 108) ∈ wG := wG_in 1000 (by decide +kernel) rfl
theorem hd108 : (pm_yn 108).cls ≠ "java/lang/invoke/MethodHandle" ∧ (pm_yn 108).cls ≠ "java/lang/invoke/VarHandle" ∧ (parseMethodDescriptor (pm_yn 108).desc).map (fun d => d.parameters.length) = some 2 := by decide +kernel
theorem cw71 : Cond.code (pm_yn 71) (pm_cc 71) (pm_nl 71) (pm_rt 71) ∈ wG := wG_in 663 (by decide +kernel) rfl
theorem hd71 : (pm_yn 71).cls ≠ "java/lang/invoke/MethodHandle" ∧ (pm_yn 71).cls ≠ "java/lang/invoke/VarHandle" ∧ (parseMethodDescriptor (pm_yn 71).desc).map (fun d => d.parameters.length) = some 1 := by decide +kernel
theorem cw109 : Cond.code (pm_yn 109) (pm_cc 109) (pm_nl 109) (pm_rt 109) ∈ wG := wG_in 1005 (by decide +kernel) rfl
theorem hd109 : (pm_yn 109).cls ≠ "java/lang/invoke/MethodHandle" ∧ (pm_yn 109).cls ≠ "java/lang/invoke/VarHandle" ∧ (parseMethodDescriptor (pm_yn 109).desc).map (fun d => d.parameters.length) = some 1 := by decide +kernel
theorem cw72 : Cond.code (pm_yn 72) (pm_cc 72) (pm_nl 72) (pm_rt 72) ∈ wG := wG_in 667 (by decide +kernel) rfl
theorem hd72 : (pm_yn 72).cls ≠ "java/lang/invoke/MethodHandle" ∧ (pm_yn 72).cls ≠ "java/lang/invoke/VarHandle" ∧ (parseMethodDescriptor (pm_yn 72).desc).map (fun d => d.parameters.length) = some 2 := by decide +kernel
theorem cw110 : Cond.code (pm_yn 110) (pm_cc 110) (pm_nl 110) (pm_rt 110) ∈ wG := wG_in 1009 (by decide +kernel) rfl
theorem hd110 : (pm_yn 110).cls ≠ "java/lang/invoke/MethodHandle" ∧ (pm_yn 110).cls ≠ "java/lang/invoke/VarHandle" ∧ (parseMethodDescriptor (pm_yn 110).desc).map (fun d => d.parameters.length) = some 2 := by decide +kernel
theorem cw73 : Cond.code (pm_yn 73) (pm_cc 73) (pm_nl 73) (pm_rt 73) ∈ wG := wG_in 671 (by decide +kernel) rfl
theorem hd73 : (pm_yn 73).cls ≠ "java/lang/invoke/MethodHandle" ∧ (pm_yn 73).cls ≠ "java/lang/invoke/VarHandle" ∧ (parseMethodDescriptor (pm_yn 73).desc).map (fun d => d.parameters.length) = some 1 := by decide +kernel
theorem cw111 : Cond.code (pm_yn 111) (pm_cc 111) (pm_nl 111) (pm_rt 111) ∈ wG := wG_in 1013 (by decide +kernel) rfl
theorem hd111 : (pm_yn 111).cls ≠ "java/lang/invoke/MethodHandle" ∧ (pm_yn 111).cls ≠ "java/lang/invoke/VarHandle" ∧ (parseMethodDescriptor (pm_yn 111).desc).map (fun d => d.parameters.length) = some 1 := by decide +kernel
theorem cw74 : Cond.code (pm_yn 74) (pm_cc 74) (pm_nl 74) (pm_rt 74) ∈ wG := wG_in 675 (by decide +kernel) rfl
theorem hd74 : (pm_yn 74).cls ≠ "java/lang/invoke/MethodHandle" ∧ (pm_yn 74).cls ≠ "java/lang/invoke/VarHandle" ∧ (parseMethodDescriptor (pm_yn 74).desc).map (fun d => d.parameters.length) = some 1 := by decide +kernel
theorem cw112 : Cond.code (pm_yn 112) (pm_cc 112) (pm_nl 112) (pm_rt 112) ∈ wG := wG_in 1017 (by decide +kernel) rfl
theorem hd112 : (pm_yn 112).cls ≠ "java/lang/invoke/MethodHandle" ∧ (pm_yn 112).cls ≠ "java/lang/invoke/VarHandle" ∧ (parseMethodDescriptor (pm_yn 112).desc).map (fun d => d.parameters.length) = some 1 := by decide +kernel
theorem cw75 : Cond.code (pm_yn 75) (pm_cc 75) (pm_nl 75) (pm_rt 75) ∈ wG := wG_in 679 (by decide +kernel) rfl
theorem hd75 : (pm_yn 75).cls ≠ "java/lang/invoke/MethodHandle" ∧ (pm_yn 75).cls ≠ "java/lang/invoke/VarHandle" ∧ (parseMethodDescriptor (pm_yn 75).desc).map (fun d => d.parameters.length) = some 1 := by decide +kernel
theorem cw113 : Cond.code (pm_yn 113) (pm_cc 113) (pm_nl 113) (pm_rt 113) ∈ wG := wG_in 1021 (by decide +kernel) rfl
theorem hd113 : (pm_yn 113).cls ≠ "java/lang/invoke/MethodHandle" ∧ (pm_yn 113).cls ≠ "java/lang/invoke/VarHandle" ∧ (parseMethodDescriptor (pm_yn 113).desc).map (fun d => d.parameters.length) = some 1 := by decide +kernel
theorem cw76 : Cond.code (pm_yn 76) (pm_cc 76) (pm_nl 76) (pm_rt 76) ∈ wG := wG_in 683 (by decide +kernel) rfl
theorem hd76 : (pm_yn 76).cls ≠ "java/lang/invoke/MethodHandle" ∧ (pm_yn 76).cls ≠ "java/lang/invoke/VarHandle" ∧ (parseMethodDescriptor (pm_yn 76).desc).map (fun d => d.parameters.length) = some 1 := by decide +kernel
theorem cw114 : Cond.code (pm_yn 114) (pm_cc 114) (pm_nl 114) (pm_rt 114) ∈ wG := wG_in 1025 (by decide +kernel) rfl
theorem hd114 : (pm_yn 114).cls ≠ "java/lang/invoke/MethodHandle" ∧ (pm_yn 114).cls ≠ "java/lang/invoke/VarHandle" ∧ (parseMethodDescriptor (pm_yn 114).desc).map (fun d => d.parameters.length) = some 1 := by decide +kernel
theorem cw77 : Cond.code (pm_yn 77) (pm_cc 77) (pm_nl 77) (pm_rt 77) ∈ wG := wG_in 687 (by decide +kernel) rfl
theorem hd77 : (pm_yn 77).cls ≠ "java/lang/invoke/MethodHandle" ∧ (pm_yn 77).cls ≠ "java/lang/invoke/VarHandle" ∧ (parseMethodDescriptor (pm_yn 77).desc).map (fun d => d.parameters.length) = some 2 := by decide +kernel
theorem cw122 : Cond.code (pm_yn 122) (pm_cc 122) (pm_nl 122) (pm_rt 122) ∈ wG := wG_in 1055 (by decide +kernel) rfl
theorem hd122 : (pm_yn 122).cls ≠ "java/lang/invoke/MethodHandle" ∧ (pm_yn 122).cls ≠ "java/lang/invoke/VarHandle" ∧ (parseMethodDescriptor (pm_yn 122).desc).map (fun d => d.parameters.length) = some 2 := by decide +kernel
theorem cw78 : Cond.code (pm_yn 78) (pm_cc 78) (pm_nl 78) (pm_rt 78) ∈ wG := wG_in 697 (by decide +kernel) rfl
theorem hd78 : (pm_yn 78).cls ≠ "java/lang/invoke/MethodHandle" ∧ (pm_yn 78).cls ≠ "java/lang/invoke/VarHandle" ∧ (parseMethodDescriptor (pm_yn 78).desc).map (fun d => d.parameters.length) = some 1 := by decide +kernel
theorem cw123 : Cond.code (pm_yn 123) (pm_cc 123) (pm_nl 123) (pm_rt 123) ∈ wG := wG_in 1059 (by decide +kernel) rfl
theorem hd123 : (pm_yn 123).cls ≠ "java/lang/invoke/MethodHandle" ∧ (pm_yn 123).cls ≠ "java/lang/invoke/VarHandle" ∧ (parseMethodDescriptor (pm_yn 123).desc).map (fun d => d.parameters.length) = some 1 := by decide +kernel
theorem cw79 : Cond.code (pm_yn 79) (pm_cc 79) (pm_nl 79) (pm_rt 79) ∈ wG := wG_in 707 (by decide +kernel) rfl
theorem hd79 : (pm_yn 79).cls ≠ "java/lang/invoke/MethodHandle" ∧ (pm_yn 79).cls ≠ "java/lang/invoke/VarHandle" ∧ (parseMethodDescriptor (pm_yn 79).desc).map (fun d => d.parameters.length) = some 1 := by decide +kernel
theorem cw124 : Cond.code (pm_yn 124) (pm_cc 124) (pm_nl 124) (pm_rt 124) ∈ wG := wG_in 1063 (by decide +kernel) rfl
theorem hd124 : (pm_yn 124).cls ≠ "java/lang/invoke/MethodHandle" ∧ (pm_yn 124).cls ≠ "java/lang/invoke/VarHandle" ∧ (parseMethodDescriptor (pm_yn 124).desc).map (fun d => d.parameters.length) = some 1 := by decide +kernel
theorem cw80 : Cond.code (pm_yn 80) (pm_cc 80) (pm_nl 80) (pm_rt 80) ∈ wG := wG_in 712 (by decide +kernel) rfl
theorem hd80 : (pm_yn 80).cls ≠ "java/lang/invoke/MethodHandle" ∧ (pm_yn 80).cls ≠ "java/lang/invoke/VarHandle" ∧ (parseMethodDescriptor (pm_yn 80).desc).map (fun d => d.parameters.length) = some 0 := by decide +kernel
theorem cw127 : Cond.code (pm_yn 127) (pm_cc 127) (pm_nl 127) (pm_rt 127) ∈ wG := wG_in 1067 (by decide +kernel) rfl
theorem hd127 : (pm_yn 127).cls ≠ "java/lang/invoke/MethodHandle" ∧ (pm_yn 127).cls ≠ "java/lang/invoke/VarHandle" ∧ (parseMethodDescriptor (pm_yn 127).desc).map (fun d => d.parameters.length) = some 0 := by decide +kernel
theorem cw81 : Cond.code (pm_yn 81) (pm_cc 81) (pm_nl 81) (pm_rt 81) ∈ wG := wG_in 750 (by decide +kernel) rfl
theorem hd81 : (pm_yn 81).cls ≠ "java/lang/invoke/MethodHandle" ∧ (pm_yn 81).cls ≠ "java/lang/invoke/VarHandle" ∧ (parseMethodDescriptor (pm_yn 81).desc).map (fun d => d.parameters.length) = some 2 := by decide +kernel
theorem cw128 : Cond.code (pm_yn 128) (pm_cc 128) (pm_nl 128) (pm_rt 128) ∈ wG := wG_in 1083 (by decide +kernel) rfl
theorem hd128 : (pm_yn 128).cls ≠ "java/lang/invoke/MethodHandle" ∧ (pm_yn 128).cls ≠ "java/lang/invoke/VarHandle" ∧ (parseMethodDescriptor (pm_yn 128).desc).map (fun d => d.parameters.length) = some 2 := by decide +kernel
theorem cw82 : Cond.code (pm_yn 82) (pm_cc 82) (pm_nl 82) (pm_rt 82) ∈ wG := wG_in 767 (by decide +kernel) rfl
theorem hd82 : (pm_yn 82).cls ≠ "java/lang/invoke/MethodHandle" ∧ (pm_yn 82).cls ≠ "java/lang/invoke/VarHandle" ∧ (parseMethodDescriptor (pm_yn 82).desc).map (fun d => d.parameters.length) = some 1 := by decide +kernel
theorem cw129 : Cond.code (pm_yn 129) (pm_cc 129) (pm_nl 129) (pm_rt 129) ∈ wG := wG_in 1087 (by decide +kernel) rfl
theorem hd129 : (pm_yn 129).cls ≠ "java/lang/invoke/MethodHandle" ∧ (pm_yn 129).cls ≠ "java/lang/invoke/VarHandle" ∧ (parseMethodDescriptor (pm_yn 129).desc).map (fun d => d.parameters.length) = some 1 := by decide +kernel

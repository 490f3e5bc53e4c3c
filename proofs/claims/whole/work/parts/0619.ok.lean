theorem am_k18 : (List.range 7).all (fun k => am_okM (210 + k)) = true := by decide +kernel

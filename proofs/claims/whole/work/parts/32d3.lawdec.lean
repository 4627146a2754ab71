/-! decode rows of the law -/
theorem d_Law_law_1347 : decode code 1347 = .ok (.lstore 6, 2) := by decide +kernel
theorem d_Law_law_1349 : decode code 1349 = .ok (.aload_n 2, 1) := by decide +kernel
theorem d_Law_law_1350 : decode code 1350 = .ok (.invokevirtual 132, 3) := by decide +kernel
theorem d_Law_law_1353 : decode code 1353 = .ok (.iload 5, 2) := by decide +kernel
theorem d_Law_law_1355 : decode code 1355 = .ok (.if_icmp .eq 5, 3) := by decide +kernel
theorem d_Law_law_1360 : decode code 1360 = .ok (.iload 5, 2) := by decide +kernel
theorem d_Law_law_1362 : decode code 1362 = .ok (.ifCond .ne 14, 3) := by decide +kernel
theorem d_Law_law_1365 : decode code 1365 = .ok (.aload_n 3, 1) := by decide +kernel
theorem d_Law_law_1366 : decode code 1366 = .ok (.iconst 0, 1) := by decide +kernel
theorem d_Law_law_1367 : decode code 1367 = .ok (.laload, 1) := by decide +kernel
theorem d_Law_law_1368 : decode code 1368 = .ok (.lload 6, 2) := by decide +kernel
theorem d_Law_law_1370 : decode code 1370 = .ok (.lcmp, 1) := by decide +kernel
theorem d_Law_law_1371 : decode code 1371 = .ok (.ifCond .eq 5, 3) := by decide +kernel
theorem d_Law_law_1376 : decode code 1376 = .ok (.goto 1141, 3) := by decide +kernel
theorem d_Law_law_1379 : decode code 1379 = .ok (.aload_n 1, 1) := by decide +kernel
theorem d_Law_law_1380 : decode code 1380 = .ok (.aload_n 0, 1) := by decide +kernel
theorem d_Law_law_1381 : decode code 1381 = .ok (.iload 4, 2) := by decide +kernel
theorem d_Law_law_1383 : decode code 1383 = .ok (.iconst 1, 1) := by decide +kernel
theorem d_Law_law_1384 : decode code 1384 = .ok (.iadd, 1) := by decide +kernel
theorem d_Law_law_1385 : decode code 1385 = .ok (.iaload, 1) := by decide +kernel
theorem d_Law_law_1386 : decode code 1386 = .ok (.aload_n 0, 1) := by decide +kernel
theorem d_Law_law_1387 : decode code 1387 = .ok (.iload 4, 2) := by decide +kernel
theorem d_Law_law_1389 : decode code 1389 = .ok (.iconst 2, 1) := by decide +kernel
theorem d_Law_law_1390 : decode code 1390 = .ok (.iadd, 1) := by decide +kernel
theorem d_Law_law_1391 : decode code 1391 = .ok (.iaload, 1) := by decide +kernel
theorem d_Law_law_1392 : decode code 1392 = .ok (.aload_n 0, 1) := by decide +kernel
theorem d_Law_law_1393 : decode code 1393 = .ok (.iload 4, 2) := by decide +kernel
theorem d_Law_law_1395 : decode code 1395 = .ok (.iconst 3, 1) := by decide +kernel
theorem d_Law_law_1396 : decode code 1396 = .ok (.iadd, 1) := by decide +kernel
theorem d_Law_law_1397 : decode code 1397 = .ok (.iaload, 1) := by decide +kernel
theorem d_Law_law_1398 : decode code 1398 = .ok (.aload_n 3, 1) := by decide +kernel
theorem d_Law_law_1399 : decode code 1399 = .ok (.invokestatic 181, 3) := by decide +kernel
theorem d_Law_law_1402 : decode code 1402 = .ok (.istore 5, 2) := by decide +kernel
theorem d_Law_law_1404 : decode code 1404 = .ok (.aload_n 2, 1) := by decide +kernel
theorem d_Law_law_1405 : decode code 1405 = .ok (.aload_n 0, 1) := by decide +kernel
theorem d_Law_law_1406 : decode code 1406 = .ok (.iload 4, 2) := by decide +kernel
theorem d_Law_law_1408 : decode code 1408 = .ok (.iconst 1, 1) := by decide +kernel
theorem d_Law_law_1409 : decode code 1409 = .ok (.iadd, 1) := by decide +kernel
theorem d_Law_law_1410 : decode code 1410 = .ok (.iaload, 1) := by decide +kernel
theorem d_Law_law_1411 : decode code 1411 = .ok (.aload_n 0, 1) := by decide +kernel
theorem d_Law_law_1412 : decode code 1412 = .ok (.iload 4, 2) := by decide +kernel
theorem d_Law_law_1414 : decode code 1414 = .ok (.iconst 2, 1) := by decide +kernel
theorem d_Law_law_1415 : decode code 1415 = .ok (.iadd, 1) := by decide +kernel
theorem d_Law_law_1416 : decode code 1416 = .ok (.iaload, 1) := by decide +kernel
theorem d_Law_law_1417 : decode code 1417 = .ok (.aload_n 0, 1) := by decide +kernel
theorem d_Law_law_1418 : decode code 1418 = .ok (.iload 4, 2) := by decide +kernel
theorem d_Law_law_1420 : decode code 1420 = .ok (.iconst 3, 1) := by decide +kernel
theorem d_Law_law_1421 : decode code 1421 = .ok (.iadd, 1) := by decide +kernel
theorem d_Law_law_1422 : decode code 1422 = .ok (.iaload, 1) := by decide +kernel
theorem d_Law_law_1423 : decode code 1423 = .ok (.invokevirtual 183, 3) := by decide +kernel
theorem d_Law_law_1426 : decode code 1426 = .ok (.lstore 6, 2) := by decide +kernel
theorem d_Law_law_1428 : decode code 1428 = .ok (.aload_n 2, 1) := by decide +kernel
theorem d_Law_law_1429 : decode code 1429 = .ok (.invokevirtual 132, 3) := by decide +kernel
theorem d_Law_law_1432 : decode code 1432 = .ok (.iload 5, 2) := by decide +kernel
theorem d_Law_law_1434 : decode code 1434 = .ok (.if_icmp .eq 5, 3) := by decide +kernel
theorem d_Law_law_1439 : decode code 1439 = .ok (.iload 5, 2) := by decide +kernel
theorem d_Law_law_1441 : decode code 1441 = .ok (.ifCond .ne 14, 3) := by decide +kernel
theorem d_Law_law_1444 : decode code 1444 = .ok (.aload_n 3, 1) := by decide +kernel
theorem d_Law_law_1445 : decode code 1445 = .ok (.iconst 0, 1) := by decide +kernel
theorem d_Law_law_1446 : decode code 1446 = .ok (.laload, 1) := by decide +kernel
theorem d_Law_law_1447 : decode code 1447 = .ok (.lload 6, 2) := by decide +kernel
theorem d_Law_law_1449 : decode code 1449 = .ok (.lcmp, 1) := by decide +kernel
theorem d_Law_law_1450 : decode code 1450 = .ok (.ifCond .eq 5, 3) := by decide +kernel
theorem d_Law_law_1455 : decode code 1455 = .ok (.goto 1062, 3) := by decide +kernel
theorem d_Law_law_1458 : decode code 1458 = .ok (.aload_n 1, 1) := by decide +kernel
theorem d_Law_law_1459 : decode code 1459 = .ok (.aload_n 0, 1) := by decide +kernel
theorem d_Law_law_1460 : decode code 1460 = .ok (.iload 4, 2) := by decide +kernel
theorem d_Law_law_1462 : decode code 1462 = .ok (.iconst 1, 1) := by decide +kernel
theorem d_Law_law_1463 : decode code 1463 = .ok (.iadd, 1) := by decide +kernel
theorem d_Law_law_1464 : decode code 1464 = .ok (.iaload, 1) := by decide +kernel
theorem d_Law_law_1465 : decode code 1465 = .ok (.aload_n 3, 1) := by decide +kernel
theorem d_Law_law_1466 : decode code 1466 = .ok (.invokestatic 184, 3) := by decide +kernel
theorem d_Law_law_1469 : decode code 1469 = .ok (.istore 5, 2) := by decide +kernel
theorem d_Law_law_1471 : decode code 1471 = .ok (.aload_n 2, 1) := by decide +kernel
theorem d_Law_law_1472 : decode code 1472 = .ok (.aload_n 0, 1) := by decide +kernel
theorem d_Law_law_1473 : decode code 1473 = .ok (.iload 4, 2) := by decide +kernel
theorem d_Law_law_1475 : decode code 1475 = .ok (.iconst 1, 1) := by decide +kernel
theorem d_Law_law_1476 : decode code 1476 = .ok (.iadd, 1) := by decide +kernel
theorem d_Law_law_1477 : decode code 1477 = .ok (.iaload, 1) := by decide +kernel
theorem d_Law_law_1478 : decode code 1478 = .ok (.invokevirtual 186, 3) := by decide +kernel
theorem d_Law_law_1481 : decode code 1481 = .ok (.istore 6, 2) := by decide +kernel
theorem d_Law_law_1483 : decode code 1483 = .ok (.aload_n 2, 1) := by decide +kernel
theorem d_Law_law_1484 : decode code 1484 = .ok (.invokevirtual 132, 3) := by decide +kernel
theorem d_Law_law_1487 : decode code 1487 = .ok (.iload 5, 2) := by decide +kernel
theorem d_Law_law_1489 : decode code 1489 = .ok (.if_icmp .eq 5, 3) := by decide +kernel
theorem d_Law_law_1494 : decode code 1494 = .ok (.iload 5, 2) := by decide +kernel
theorem d_Law_law_1496 : decode code 1496 = .ok (.ifCond .ne 15, 3) := by decide +kernel
theorem d_Law_law_1499 : decode code 1499 = .ok (.aload_n 3, 1) := by decide +kernel
theorem d_Law_law_1500 : decode code 1500 = .ok (.iconst 0, 1) := by decide +kernel
theorem d_Law_law_1501 : decode code 1501 = .ok (.laload, 1) := by decide +kernel
theorem d_Law_law_1502 : decode code 1502 = .ok (.iload 6, 2) := by decide +kernel
theorem d_Law_law_1504 : decode code 1504 = .ok (.i2l, 1) := by decide +kernel
theorem d_Law_law_1505 : decode code 1505 = .ok (.lcmp, 1) := by decide +kernel
theorem d_Law_law_1506 : decode code 1506 = .ok (.ifCond .eq 5, 3) := by decide +kernel
theorem d_Law_law_1511 : decode code 1511 = .ok (.goto 1006, 3) := by decide +kernel
theorem d_Law_law_1514 : decode code 1514 = .ok (.aload_n 1, 1) := by decide +kernel
theorem d_Law_law_1515 : decode code 1515 = .ok (.aload_n 0, 1) := by decide +kernel
theorem d_Law_law_1516 : decode code 1516 = .ok (.iload 4, 2) := by decide +kernel
theorem d_Law_law_1518 : decode code 1518 = .ok (.iconst 1, 1) := by decide +kernel
theorem d_Law_law_1519 : decode code 1519 = .ok (.iadd, 1) := by decide +kernel
theorem d_Law_law_1520 : decode code 1520 = .ok (.iaload, 1) := by decide +kernel
theorem d_Law_law_1521 : decode code 1521 = .ok (.aload_n 0, 1) := by decide +kernel
theorem d_Law_law_1522 : decode code 1522 = .ok (.iload 4, 2) := by decide +kernel
theorem d_Law_law_1524 : decode code 1524 = .ok (.iconst 2, 1) := by decide +kernel
theorem d_Law_law_1525 : decode code 1525 = .ok (.iadd, 1) := by decide +kernel
theorem d_Law_law_1526 : decode code 1526 = .ok (.iaload, 1) := by decide +kernel
theorem d_Law_law_1527 : decode code 1527 = .ok (.aload_n 3, 1) := by decide +kernel
theorem d_Law_law_1528 : decode code 1528 = .ok (.invokestatic 187, 3) := by decide +kernel
theorem d_Law_law_1531 : decode code 1531 = .ok (.istore 5, 2) := by decide +kernel
theorem d_Law_law_1533 : decode code 1533 = .ok (.aload_n 2, 1) := by decide +kernel
theorem d_Law_law_1534 : decode code 1534 = .ok (.aload_n 0, 1) := by decide +kernel
theorem d_Law_law_1535 : decode code 1535 = .ok (.iload 4, 2) := by decide +kernel
theorem d_Law_law_1537 : decode code 1537 = .ok (.iconst 1, 1) := by decide +kernel
theorem d_Law_law_1538 : decode code 1538 = .ok (.iadd, 1) := by decide +kernel
theorem d_Law_law_1539 : decode code 1539 = .ok (.iaload, 1) := by decide +kernel
theorem d_Law_law_1540 : decode code 1540 = .ok (.aload_n 0, 1) := by decide +kernel
theorem d_Law_law_1541 : decode code 1541 = .ok (.iload 4, 2) := by decide +kernel
theorem d_Law_law_1543 : decode code 1543 = .ok (.iconst 2, 1) := by decide +kernel
theorem d_Law_law_1544 : decode code 1544 = .ok (.iadd, 1) := by decide +kernel
theorem d_Law_law_1545 : decode code 1545 = .ok (.iaload, 1) := by decide +kernel
theorem d_Law_law_1546 : decode code 1546 = .ok (.invokevirtual 189, 3) := by decide +kernel
theorem d_Law_law_1549 : decode code 1549 = .ok (.istore 6, 2) := by decide +kernel
theorem d_Law_law_1551 : decode code 1551 = .ok (.aload_n 2, 1) := by decide +kernel
theorem d_Law_law_1552 : decode code 1552 = .ok (.invokevirtual 132, 3) := by decide +kernel
theorem d_Law_law_1555 : decode code 1555 = .ok (.iload 5, 2) := by decide +kernel
theorem d_Law_law_1557 : decode code 1557 = .ok (.if_icmp .eq 5, 3) := by decide +kernel
theorem d_Law_law_1562 : decode code 1562 = .ok (.iload 5, 2) := by decide +kernel
theorem d_Law_law_1564 : decode code 1564 = .ok (.ifCond .ne 22, 3) := by decide +kernel
theorem d_Law_law_1567 : decode code 1567 = .ok (.aload_n 3, 1) := by decide +kernel
theorem d_Law_law_1568 : decode code 1568 = .ok (.iconst 0, 1) := by decide +kernel
theorem d_Law_law_1569 : decode code 1569 = .ok (.laload, 1) := by decide +kernel
theorem d_Law_law_1570 : decode code 1570 = .ok (.iload 6, 2) := by decide +kernel
theorem d_Law_law_1572 : decode code 1572 = .ok (.ifCond .eq 7, 3) := by decide +kernel
theorem d_Law_law_1575 : decode code 1575 = .ok (.lconst 1, 1) := by decide +kernel
theorem d_Law_law_1576 : decode code 1576 = .ok (.goto 4, 3) := by decide +kernel
theorem d_Law_law_1579 : decode code 1579 = .ok (.lconst 0, 1) := by decide +kernel
theorem d_Law_law_1580 : decode code 1580 = .ok (.lcmp, 1) := by decide +kernel
theorem d_Law_law_1581 : decode code 1581 = .ok (.ifCond .eq 5, 3) := by decide +kernel
theorem d_Law_law_1586 : decode code 1586 = .ok (.goto 931, 3) := by decide +kernel
theorem d_Law_law_1589 : decode code 1589 = .ok (.aload_n 1, 1) := by decide +kernel
theorem d_Law_law_1590 : decode code 1590 = .ok (.aload_n 0, 1) := by decide +kernel
theorem d_Law_law_1591 : decode code 1591 = .ok (.iload 4, 2) := by decide +kernel
theorem d_Law_law_1593 : decode code 1593 = .ok (.iconst 1, 1) := by decide +kernel
theorem d_Law_law_1594 : decode code 1594 = .ok (.iadd, 1) := by decide +kernel
theorem d_Law_law_1595 : decode code 1595 = .ok (.iaload, 1) := by decide +kernel
theorem d_Law_law_1596 : decode code 1596 = .ok (.aload_n 0, 1) := by decide +kernel
theorem d_Law_law_1597 : decode code 1597 = .ok (.iload 4, 2) := by decide +kernel
theorem d_Law_law_1599 : decode code 1599 = .ok (.iconst 2, 1) := by decide +kernel
theorem d_Law_law_1600 : decode code 1600 = .ok (.iadd, 1) := by decide +kernel
theorem d_Law_law_1601 : decode code 1601 = .ok (.iaload, 1) := by decide +kernel
theorem d_Law_law_1602 : decode code 1602 = .ok (.aload_n 0, 1) := by decide +kernel
theorem d_Law_law_1603 : decode code 1603 = .ok (.iload 4, 2) := by decide +kernel
theorem d_Law_law_1605 : decode code 1605 = .ok (.iconst 3, 1) := by decide +kernel
theorem d_Law_law_1606 : decode code 1606 = .ok (.iadd, 1) := by decide +kernel
theorem d_Law_law_1607 : decode code 1607 = .ok (.iaload, 1) := by decide +kernel
theorem d_Law_law_1608 : decode code 1608 = .ok (.aload_n 3, 1) := by decide +kernel
theorem d_Law_law_1609 : decode code 1609 = .ok (.invokestatic 190, 3) := by decide +kernel
theorem d_Law_law_1612 : decode code 1612 = .ok (.istore 5, 2) := by decide +kernel
theorem d_Law_law_1614 : decode code 1614 = .ok (.aload_n 2, 1) := by decide +kernel
theorem d_Law_law_1615 : decode code 1615 = .ok (.aload_n 0, 1) := by decide +kernel
theorem d_Law_law_1616 : decode code 1616 = .ok (.iload 4, 2) := by decide +kernel
theorem d_Law_law_1618 : decode code 1618 = .ok (.iconst 1, 1) := by decide +kernel
theorem d_Law_law_1619 : decode code 1619 = .ok (.iadd, 1) := by decide +kernel
theorem d_Law_law_1620 : decode code 1620 = .ok (.iaload, 1) := by decide +kernel
theorem d_Law_law_1621 : decode code 1621 = .ok (.aload_n 0, 1) := by decide +kernel
theorem d_Law_law_1622 : decode code 1622 = .ok (.iload 4, 2) := by decide +kernel
theorem d_Law_law_1624 : decode code 1624 = .ok (.iconst 2, 1) := by decide +kernel
theorem d_Law_law_1625 : decode code 1625 = .ok (.iadd, 1) := by decide +kernel
theorem d_Law_law_1626 : decode code 1626 = .ok (.iaload, 1) := by decide +kernel
theorem d_Law_law_1627 : decode code 1627 = .ok (.aload_n 0, 1) := by decide +kernel
theorem d_Law_law_1628 : decode code 1628 = .ok (.iload 4, 2) := by decide +kernel
theorem d_Law_law_1630 : decode code 1630 = .ok (.iconst 3, 1) := by decide +kernel
theorem d_Law_law_1631 : decode code 1631 = .ok (.iadd, 1) := by decide +kernel
theorem d_Law_law_1632 : decode code 1632 = .ok (.iaload, 1) := by decide +kernel
theorem d_Law_law_1633 : decode code 1633 = .ok (.invokevirtual 192, 3) := by decide +kernel
theorem d_Law_law_1636 : decode code 1636 = .ok (.istore 6, 2) := by decide +kernel
theorem d_Law_law_1638 : decode code 1638 = .ok (.aload_n 2, 1) := by decide +kernel
theorem d_Law_law_1639 : decode code 1639 = .ok (.invokevirtual 132, 3) := by decide +kernel
theorem d_Law_law_1642 : decode code 1642 = .ok (.iload 5, 2) := by decide +kernel
theorem d_Law_law_1644 : decode code 1644 = .ok (.if_icmp .eq 5, 3) := by decide +kernel
theorem d_Law_law_1649 : decode code 1649 = .ok (.iload 5, 2) := by decide +kernel
theorem d_Law_law_1651 : decode code 1651 = .ok (.ifCond .ne 15, 3) := by decide +kernel
theorem d_Law_law_1654 : decode code 1654 = .ok (.aload_n 3, 1) := by decide +kernel
theorem d_Law_law_1655 : decode code 1655 = .ok (.iconst 0, 1) := by decide +kernel
theorem d_Law_law_1656 : decode code 1656 = .ok (.laload, 1) := by decide +kernel
theorem d_Law_law_1657 : decode code 1657 = .ok (.iload 6, 2) := by decide +kernel
theorem d_Law_law_1659 : decode code 1659 = .ok (.i2l, 1) := by decide +kernel
theorem d_Law_law_1660 : decode code 1660 = .ok (.lcmp, 1) := by decide +kernel
theorem d_Law_law_1661 : decode code 1661 = .ok (.ifCond .eq 5, 3) := by decide +kernel
theorem d_Law_law_1666 : decode code 1666 = .ok (.goto 851, 3) := by decide +kernel
theorem d_Law_law_1669 : decode code 1669 = .ok (.aload_n 1, 1) := by decide +kernel
theorem d_Law_law_1670 : decode code 1670 = .ok (.aload_n 0, 1) := by decide +kernel
theorem d_Law_law_1671 : decode code 1671 = .ok (.iload 4, 2) := by decide +kernel
theorem d_Law_law_1673 : decode code 1673 = .ok (.iconst 1, 1) := by decide +kernel
theorem d_Law_law_1674 : decode code 1674 = .ok (.iadd, 1) := by decide +kernel
theorem d_Law_law_1675 : decode code 1675 = .ok (.iaload, 1) := by decide +kernel
theorem d_Law_law_1676 : decode code 1676 = .ok (.aload_n 0, 1) := by decide +kernel
theorem d_Law_law_1677 : decode code 1677 = .ok (.iload 4, 2) := by decide +kernel
theorem d_Law_law_1679 : decode code 1679 = .ok (.iconst 2, 1) := by decide +kernel
theorem d_Law_law_1680 : decode code 1680 = .ok (.iadd, 1) := by decide +kernel
theorem d_Law_law_1681 : decode code 1681 = .ok (.iaload, 1) := by decide +kernel
theorem d_Law_law_1682 : decode code 1682 = .ok (.aload_n 3, 1) := by decide +kernel
theorem d_Law_law_1683 : decode code 1683 = .ok (.invokestatic 193, 3) := by decide +kernel
theorem d_Law_law_1686 : decode code 1686 = .ok (.istore 5, 2) := by decide +kernel
theorem d_Law_law_1688 : decode code 1688 = .ok (.aload_n 2, 1) := by decide +kernel
theorem d_Law_law_1689 : decode code 1689 = .ok (.aload_n 0, 1) := by decide +kernel
theorem d_Law_law_1690 : decode code 1690 = .ok (.iload 4, 2) := by decide +kernel
theorem d_Law_law_1692 : decode code 1692 = .ok (.iconst 1, 1) := by decide +kernel
theorem d_Law_law_1693 : decode code 1693 = .ok (.iadd, 1) := by decide +kernel
theorem d_Law_law_1694 : decode code 1694 = .ok (.iaload, 1) := by decide +kernel
theorem d_Law_law_1695 : decode code 1695 = .ok (.aload_n 0, 1) := by decide +kernel
theorem d_Law_law_1696 : decode code 1696 = .ok (.iload 4, 2) := by decide +kernel
theorem d_Law_law_1698 : decode code 1698 = .ok (.iconst 2, 1) := by decide +kernel
theorem d_Law_law_1699 : decode code 1699 = .ok (.iadd, 1) := by decide +kernel
theorem d_Law_law_1700 : decode code 1700 = .ok (.iaload, 1) := by decide +kernel
theorem d_Law_law_1701 : decode code 1701 = .ok (.invokevirtual 195, 3) := by decide +kernel
theorem d_Law_law_1704 : decode code 1704 = .ok (.istore 6, 2) := by decide +kernel
theorem d_Law_law_1706 : decode code 1706 = .ok (.aload_n 2, 1) := by decide +kernel
theorem d_Law_law_1707 : decode code 1707 = .ok (.invokevirtual 132, 3) := by decide +kernel
theorem d_Law_law_1710 : decode code 1710 = .ok (.iload 5, 2) := by decide +kernel
theorem d_Law_law_1712 : decode code 1712 = .ok (.if_icmp .eq 5, 3) := by decide +kernel
theorem d_Law_law_1717 : decode code 1717 = .ok (.iload 5, 2) := by decide +kernel
theorem d_Law_law_1719 : decode code 1719 = .ok (.ifCond .ne 15, 3) := by decide +kernel
theorem d_Law_law_1722 : decode code 1722 = .ok (.aload_n 3, 1) := by decide +kernel
theorem d_Law_law_1723 : decode code 1723 = .ok (.iconst 0, 1) := by decide +kernel
theorem d_Law_law_1724 : decode code 1724 = .ok (.laload, 1) := by decide +kernel
theorem d_Law_law_1725 : decode code 1725 = .ok (.iload 6, 2) := by decide +kernel
theorem d_Law_law_1727 : decode code 1727 = .ok (.i2l, 1) := by decide +kernel
theorem d_Law_law_1728 : decode code 1728 = .ok (.lcmp, 1) := by decide +kernel
theorem d_Law_law_1729 : decode code 1729 = .ok (.ifCond .eq 5, 3) := by decide +kernel
theorem d_Law_law_1734 : decode code 1734 = .ok (.goto 783, 3) := by decide +kernel
theorem d_Law_law_1737 : decode code 1737 = .ok (.aload_n 1, 1) := by decide +kernel
theorem d_Law_law_1738 : decode code 1738 = .ok (.aload_n 0, 1) := by decide +kernel
theorem d_Law_law_1739 : decode code 1739 = .ok (.iload 4, 2) := by decide +kernel
theorem d_Law_law_1741 : decode code 1741 = .ok (.iconst 1, 1) := by decide +kernel
theorem d_Law_law_1742 : decode code 1742 = .ok (.iadd, 1) := by decide +kernel
theorem d_Law_law_1743 : decode code 1743 = .ok (.iaload, 1) := by decide +kernel
theorem d_Law_law_1744 : decode code 1744 = .ok (.aload_n 0, 1) := by decide +kernel
theorem d_Law_law_1745 : decode code 1745 = .ok (.iload 4, 2) := by decide +kernel
theorem d_Law_law_1747 : decode code 1747 = .ok (.iconst 2, 1) := by decide +kernel
theorem d_Law_law_1748 : decode code 1748 = .ok (.iadd, 1) := by decide +kernel
theorem d_Law_law_1749 : decode code 1749 = .ok (.iaload, 1) := by decide +kernel
theorem d_Law_law_1750 : decode code 1750 = .ok (.aload_n 3, 1) := by decide +kernel
theorem d_Law_law_1751 : decode code 1751 = .ok (.invokestatic 196, 3) := by decide +kernel
theorem d_Law_law_1754 : decode code 1754 = .ok (.istore 5, 2) := by decide +kernel
theorem d_Law_law_1756 : decode code 1756 = .ok (.aload_n 2, 1) := by decide +kernel
theorem d_Law_law_1757 : decode code 1757 = .ok (.aload_n 0, 1) := by decide +kernel
theorem d_Law_law_1758 : decode code 1758 = .ok (.iload 4, 2) := by decide +kernel
theorem d_Law_law_1760 : decode code 1760 = .ok (.iconst 1, 1) := by decide +kernel
theorem d_Law_law_1761 : decode code 1761 = .ok (.iadd, 1) := by decide +kernel

/** The labels: each sentence of the promises 9 to 14, and of their terms, that names a boundary case. */
public final class LabelBoundaryTest extends Due {
    public static void main(String[] args) {
        howMany();
        noSuchStation();
        sixteenStations();
        eachNodeIsItsOwnStation();
        noWayNoStation();
        theEndsToo();
        onOneOfTwoLeastWays();
        onALongerWay();
        byRisingRanks();
        askOfOneNode();
        askWithoutAWay();
        theMeetingIsTheFirst();
        theLongestDistance();
        redoneAtFirst();
        redoneCounts();
        redoneAgainstTheMakeBefore();
        redoneKnowsNoDamage();
        damageByNumbers();
        damageDownToNothing();
        damageUpToTheMost();
        damageOfNoStation();
        damageIsOfOneLabel();
        damageTillTheNextMake();
        askedGoesByDamage();
        onlyAskedGoesByDamage();
        checkFindsNone();
        checkFindsTheFirst();
        checkOfOneNode();
        checkAtTheEnds();
        end();
    }

    private static String of(int side, int v) {
        return "label(" + side + ", " + v + ", ";
    }

    /** All of a label: node, distance, node, distance, .. */
    private static void label(Watched x, int side, int v, int... stations) {
        int many = stations.length / 2;
        due(of(side, v) + "-1, 0)", x.label(side, v, -1, 0), many);
        for (int k = 0; k < many; k++) {
            due(of(side, v) + k + ", 0)", x.label(side, v, k, 0), stations[2 * k]);
            due(of(side, v) + k + ", 1)", x.label(side, v, k, 1), stations[2 * k + 1]);
        }
        due(of(side, v) + many + ", 0)", x.label(side, v, many, 0), BAD);
        due(of(side, v) + many + ", 1)", x.label(side, v, many, 1), BAD);
    }

    // ---- 9 'k = - 1 (whatever what): how many. BAD: none such.'

    private static void howMany() {
        Watched x = chain();
        x.make();
        for (int what : a(0, 1, 2, 3, -1, -2, 16, LOW, HIGH)) {
            due("9 how many of IN of 3, what " + what, x.label(1, 3, -1, what), 4);
            due("9 how many of OUT of 3, what " + what, x.label(0, 3, -1, what), 1);
            due("9 side -1, how many", x.label(-1, 3, -1, what), BAD);
            due("9 side 2, how many", x.label(2, 3, -1, what), BAD);
            due("9 no node, how many", x.label(0, 4, -1, what), BAD);
            due("9 no node, how many", x.label(1, -1, -1, what), BAD);
        }
    }

    private static void noSuchStation() {
        Watched x = chain();
        x.make();
        // IN of 2 has three stations.
        due("9 the last one", x.label(1, 2, 2, 0), 2);
        due("9 the last one's distance", x.label(1, 2, 2, 1), 0);
        for (int k : a(3, 4, 15, 16, -2, -3, LOW, LOW + 1, HIGH - 1, HIGH)) {
            for (int what = -1; what < 3; what++) {
                due("9 label(1, 2, " + k + ", " + what + ")", x.label(1, 2, k, what), BAD);
            }
        }
        for (int k = 0; k < 3; k++) {
            for (int what : a(2, 3, -1, -2, LOW, HIGH)) {
                due("9 label(1, 2, " + k + ", " + what + ")", x.label(1, 2, k, what), BAD);
            }
        }
        for (int side : a(-1, 2, LOW, HIGH)) {
            due("9 label(" + side + ", 2, 0, 0)", x.label(side, 2, 0, 0), BAD);
        }
        for (int v : a(-1, 4, 15, 16, LOW, HIGH)) {
            due(of(0, v) + "0, 0)", x.label(0, v, 0, 0), BAD);
            due(of(1, v) + "0, 1)", x.label(1, v, 0, 1), BAD);
        }
    }

    private static void sixteenStations() {
        Watched x = longest();
        x.make();
        due("9 sixteen of IN of 15", x.label(1, 15, -1, 0), 16);
        for (int k = 0; k < 16; k++) {
            due(of(1, 15) + k + ", 0)", x.label(1, 15, k, 0), k);
            due(of(1, 15) + k + ", 1)", x.label(1, 15, k, 1), 1000 * (15 - k));
        }
        due(of(1, 15) + "16, 0)", x.label(1, 15, 16, 0), BAD);
        due(of(1, 15) + "17, 1)", x.label(1, 15, 17, 1), BAD);
        due("9 one of OUT of 0", x.label(0, 0, -1, 0), 1);
        for (int k = 0; k < 16; k++) {
            x.rank(15 - k, k);
        }
        x.make();
        due("9 sixteen of OUT of 0", x.label(0, 0, -1, 0), 16);
        due(of(0, 0) + "0, 0)", x.label(0, 0, 0, 0), 15);
        due(of(0, 0) + "0, 1)", x.label(0, 0, 0, 1), 15000);
        due(of(0, 0) + "15, 0)", x.label(0, 0, 15, 0), 0);
        due(of(0, 0) + "15, 1)", x.label(0, 0, 15, 1), 0);
        due(of(0, 0) + "16, 0)", x.label(0, 0, 16, 0), BAD);
        due("9 one of IN of 15", x.label(1, 15, -1, 0), 1);
    }

    // ---- 2 'OUT of v has the STATIONS h to which there is a way from v, and so that no NODE of a lesser RANK than h
    // ---- lies on a LEAST WAY from v to h (its ends, too)'

    /** The way from a node to itself is the node alone, of DISTANCE 0, whatever circle there is. */
    private static void eachNodeIsItsOwnStation() {
        Watched x = made(2, a(0, 1, 1), a(1, 0, 1));
        label(x, 0, 0, 0, 0);
        label(x, 1, 0, 0, 0);
        label(x, 0, 1, 0, 1, 1, 0);
        label(x, 1, 1, 0, 1, 1, 0);
        Watched one = made(1);
        label(one, 0, 0, 0, 0);
        label(one, 1, 0, 0, 0);
    }

    private static void noWayNoStation() {
        Watched x = made(3, a(0, 2, 1000));
        label(x, 0, 0, 0, 0);
        label(x, 1, 0, 0, 0);
        label(x, 0, 1, 1, 0);
        label(x, 1, 1, 1, 0);
        label(x, 0, 2, 2, 0);
        label(x, 1, 2, 0, 1000, 2, 0);
    }

    private static void theEndsToo() {
        Watched x = net(2, a(0, 1, 7));
        x.make();
        // 0 is the lesser one by rank: 1 is no station of OUT of 0, though nothing else lies on the way.
        label(x, 0, 0, 0, 0);
        label(x, 1, 1, 0, 7, 1, 0);
        x.rank(1, 0);
        x.make();
        label(x, 0, 0, 1, 7, 0, 0);
        label(x, 1, 1, 1, 0);
    }

    private static void onOneOfTwoLeastWays() {
        Watched x = diamond();
        // 1 lies on one LEAST WAY from 0 to 3, not on the other one.
        order(x, 1, 3, 0, 2);
        x.make();
        label(x, 0, 0, 1, 1, 0, 0);
        label(x, 1, 3, 1, 1, 3, 0);
        label(x, 0, 2, 3, 1, 2, 0);
        label(x, 1, 2, 0, 1, 2, 0);
        // A DISTANCE less by that way: 2 alone lies on the LEAST WAY.
        x.arc(0, 2, 2);
        x.arc(2, 3, 2);
        x.arc(0, 1, 3);
        x.arc(1, 3, 2);
        x.make();
        label(x, 0, 0, 1, 3, 3, 4, 0, 0);
    }

    /** A NODE of a lesser RANK that lies on longer ways alone takes no station away. */
    private static void onALongerWay() {
        Watched x = net(3, a(1, 0, 2), a(0, 2, 2), a(1, 2, 3));
        x.make();
        label(x, 1, 2, 0, 2, 1, 3, 2, 0);
        x.arc(1, 2, 4);
        x.make();
        // 1 -> 0 -> 2 is as long as the arc now.
        label(x, 1, 2, 0, 2, 2, 0);
        x.arc(1, 2, 5);
        x.make();
        label(x, 1, 2, 0, 2, 2, 0);
    }

    /** 'By rising RANKS of STATIONS': not by numbers, not by DISTANCES. */
    private static void byRisingRanks() {
        Watched x = net(4, a(3, 0, 9), a(3, 1, 1), a(3, 2, 5));
        order(x, 2, 0, 1, 3);
        x.make();
        label(x, 0, 3, 2, 5, 0, 9, 1, 1, 3, 0);
        order(x, 1, 2, 0, 3);
        x.make();
        label(x, 0, 3, 1, 1, 2, 5, 0, 9, 3, 0);
    }

    // ---- 10, 11 'BAD: no NODES. NONE: there is no STATION in both.'

    private static void askOfOneNode() {
        Watched x = made(3, a(0, 1, 1), a(1, 0, 1));
        for (int v = 0; v < 3; v++) {
            due("10 ask of one node", x.ask(v, v), 0);
            due("11 meeting of one node", x.meeting(v, v), v);
        }
    }

    private static void askWithoutAWay() {
        Watched x = made(4, a(0, 1, 5), a(2, 1, 5));
        due("10 against the arc", x.ask(1, 0), NONE);
        due("11 against the arc", x.meeting(1, 0), NONE);
        due("10 both have a way to 1", x.ask(0, 2), NONE);
        due("11 both have a way to 1", x.meeting(0, 2), NONE);
        due("10 from a node without arcs", x.ask(3, 1), NONE);
        due("11 to a node without arcs", x.meeting(0, 3), NONE);
        for (int v : a(-1, 4, 15, 16, LOW, HIGH)) {
            due("10 ask(" + v + ", 0)", x.ask(v, 0), BAD);
            due("10 ask(0, " + v + ")", x.ask(0, v), BAD);
            due("10 ask(" + v + ", " + v + ")", x.ask(v, v), BAD);
            due("11 meeting(" + v + ", 0)", x.meeting(v, 0), BAD);
            due("11 meeting(0, " + v + ")", x.meeting(0, v), BAD);
            due("11 meeting(" + v + ", " + v + ")", x.meeting(v, v), BAD);
        }
    }

    /** 'the first one by RANK with which it is that sum' */
    private static void theMeetingIsTheFirst() {
        Watched x = diamond();
        order(x, 2, 1, 0, 3);
        x.make();
        due("11 two with one sum", x.meeting(0, 3), 2);
        order(x, 1, 2, 0, 3);
        x.make();
        due("11 two with one sum, the other order", x.meeting(0, 3), 1);
        due("13 the first is one more", x.damage(0, 0, 0, 1), 2);
        due("11 the second has the least sum", x.meeting(0, 3), 2);
        due("10 the second has the least sum", x.ask(0, 3), 2);
        due("13 the second is one more, too", x.damage(1, 3, 1, 1), 2);
        due("11 two with one sum again", x.meeting(0, 3), 1);
        due("10 two with one sum again", x.ask(0, 3), 3);
    }

    private static void theLongestDistance() {
        Watched x = longest();
        x.make();
        due("10 ask(0, 15)", x.ask(0, 15), 15000);
        due("11 meeting(0, 15)", x.meeting(0, 15), 0);
        due("10 ask(15, 0)", x.ask(15, 0), NONE);
        due("16 climb(0, 15)", x.climb(0, 15), 15000);
        due("14 check()", x.check(), NONE);
    }

    // ---- 12 'there alone, or not there any more; another DISTANCE counts twice'

    private static void redoneAtFirst() {
        Watched x = new Watched();
        due("12 before the first make()", x.redone(), TURN);
        x.make();
        due("12 no nodes", x.redone(), 0);
        x.node();
        due("12 behind node()", x.redone(), TURN);
        x.make();
        due("12 the first node", x.redone(), 2);
        Watched y = longest();
        int stations = y.make();
        due("12 all at the first make()", y.redone(), stations);
        due("12 asked again", y.redone(), stations);
        y.make();
        due("12 nothing at the second one", y.redone(), 0);
    }

    private static void redoneCounts() {
        Watched x = net(2);
        x.make();
        x.arc(0, 1, 5);
        x.make();
        due("12 one there alone", x.redone(), 1);
        x.arc(0, 1, 6);
        x.make();
        due("12 one with another distance", x.redone(), 2);
        x.arc(0, 1, 5);
        x.make();
        due("12 one with another distance, less", x.redone(), 2);
        x.lose(0, 1);
        x.make();
        due("12 one not there any more", x.redone(), 1);
        x.arc(0, 1, 5);
        x.rank(1, 0);
        x.make();
        due("12 one there alone, in OUT", x.redone(), 1);
        x.rank(0, 0);
        x.make();
        due("12 one goes from OUT, one comes to IN", x.redone(), 2);
        x.arc(0, 1, 5);
        x.make();
        due("12 an arc as it was", x.redone(), 0);
        x.node();
        x.rank(2, 0);
        x.make();
        due("12 other ranks alone take and bring none", x.redone(), 2);
    }

    private static void redoneAgainstTheMakeBefore() {
        Watched x = net(2, a(0, 1, 5));
        x.make();
        x.arc(0, 1, 9);
        x.arc(0, 1, 5);
        x.make();
        due("12 changed and changed back", x.redone(), 0);
        x.lose(0, 1);
        x.arc(0, 1, 5);
        x.make();
        due("12 lost and laid again", x.redone(), 0);
        x.arc(0, 1, 9);
        x.make();
        x.arc(0, 1, 5);
        x.make();
        due("12 by the make() before alone", x.redone(), 2);
        x.lose(0, 1);
        x.make();
        x.make();
        due("12 by the latest make() alone", x.redone(), 0);
        x.arc(0, 1, 5);
        x.make();
        due("12 one that was there two make()s before", x.redone(), 1);
    }

    private static void redoneKnowsNoDamage() {
        Watched x = net(2, a(0, 1, 5));
        x.make();
        x.damage(1, 1, 0, 3);
        due("12 behind damage", x.redone(), 5);
        x.make();
        due("12 damage that is undone", x.redone(), 0);
        x.damage(1, 1, 0, 3);
        x.arc(0, 1, 8);
        x.make();
        due("12 damage that comes true", x.redone(), 2);
    }

    // ---- 13 'so much more (- 1,000 .. 1,000): what it is then'

    private static void damageByNumbers() {
        Watched x = made(2, a(0, 1, 500));
        due("13 by 1,000", x.damage(1, 1, 0, 1000), 1500);
        due("13 by -1,000", x.damage(1, 1, 0, -1000), 500);
        due("13 by 0", x.damage(1, 1, 0, 0), 500);
        due("13 by 1", x.damage(1, 1, 0, 1), 501);
        due("13 by -1", x.damage(1, 1, 0, -1), 500);
        x.damage(1, 1, 0, 1000);
        x.damage(1, 1, 0, 1000);
        for (int by : a(1001, -1001, 1002, -1002, 90000, -2500, LOW, LOW + 1, HIGH - 1, HIGH)) {
            due("13 by " + by, x.damage(1, 1, 0, by), BAD);
            due("13 it stays behind by " + by, x.label(1, 1, 0, 1), 2500);
        }
        due("13 of the last station", x.damage(1, 1, 1, 1000), 1000);
    }

    /** 'or it would be below 0' */
    private static void damageDownToNothing() {
        Watched x = made(2, a(0, 1, 5));
        due("13 below 0 by one", x.damage(1, 1, 0, -6), BAD);
        due("13 far below 0", x.damage(1, 1, 0, -1000), BAD);
        due("13 it stays", x.label(1, 1, 0, 1), 5);
        due("13 ask() stays", x.ask(0, 1), 5);
        due("13 to 0", x.damage(1, 1, 0, -5), 0);
        due("13 label() of 0", x.label(1, 1, 0, 1), 0);
        due("13 a station of 0 is one still", x.label(1, 1, -1, 0), 2);
        due("13 ask() of 0", x.ask(0, 1), 0);
        due("13 from 0 down", x.damage(1, 1, 0, -1), BAD);
        due("13 from 0 by 0", x.damage(1, 1, 0, 0), 0);
        due("13 a node's own, from 0 down", x.damage(0, 0, 0, -1), BAD);
        due("13 a node's own, up", x.damage(0, 0, 0, 1), 1);
        due("13 a node's own, down again", x.damage(0, 0, 0, -1), 0);
    }

    /** 'or above 90,000' */
    private static void damageUpToTheMost() {
        Watched x = made(2, a(0, 1, 999));
        for (int i = 1; i <= 89; i++) {
            due("13 up", x.damage(1, 1, 0, 1000), 999 + 1000 * i);
        }
        due("13 above 90,000 by one", x.damage(1, 1, 0, 2), BAD);
        due("13 far above 90,000", x.damage(1, 1, 0, 1000), BAD);
        due("13 it stays", x.label(1, 1, 0, 1), 89999);
        due("13 to 90,000", x.damage(1, 1, 0, 1), 90000);
        due("13 label() of 90,000", x.label(1, 1, 0, 1), 90000);
        due("13 ask() of 90,000", x.ask(0, 1), 90000);
        due("13 from 90,000 up", x.damage(1, 1, 0, 1), BAD);
        due("13 from 90,000 by 0", x.damage(1, 1, 0, 0), 90000);
        for (int i = 1; i <= 90; i++) {
            due("13 up", x.damage(0, 0, 0, 1000), 1000 * i);
        }
        due("13 above 90,000", x.damage(0, 0, 0, 1), BAD);
        due("10 the sum of two may be more", x.ask(0, 1), 180000);
        due("14 and is wrong", x.check(), 0);
        due("13 from 90,000 down", x.damage(0, 0, 0, -1000), 89000);
    }

    /** 'BAD: no such STATION' */
    private static void damageOfNoStation() {
        Watched x = chain();
        x.make();
        // IN of 2 has three stations.
        for (int k : a(-1, -2, 3, 4, 15, 16, LOW, LOW + 1, HIGH - 1, HIGH)) {
            due("13 damage(1, 2, " + k + ", 1)", x.damage(1, 2, k, 1), BAD);
        }
        for (int side : a(-1, 2, LOW, HIGH)) {
            due("13 damage(" + side + ", 2, 0, 1)", x.damage(side, 2, 0, 1), BAD);
        }
        for (int v : a(-1, 4, 15, 16, LOW, HIGH)) {
            due("13 damage(0, " + v + ", 0, 1)", x.damage(0, v, 0, 1), BAD);
            due("13 damage(1, " + v + ", 0, 0)", x.damage(1, v, 0, 0), BAD);
        }
        label(x, 1, 2, 0, 5, 1, 3, 2, 0);
        due("13 the last one", x.damage(1, 2, 2, 1), 1);
        due("14 (2, 2)", x.check(), 2 * 16 + 2);
    }

    // ---- 2 'DAMAGE changes a DISTANCE in a LABEL till the next make(): ASKED goes by it.'

    private static void damageIsOfOneLabel() {
        Watched x = chain();
        x.make();
        due("13 OUT of 1", x.damage(0, 1, 0, 4), 4);
        label(x, 0, 1, 1, 4);
        label(x, 1, 1, 0, 2, 1, 0);
        label(x, 0, 0, 0, 0);
        label(x, 1, 2, 0, 5, 1, 3, 2, 0);
        due("13 IN of 2", x.damage(1, 2, 1, 6), 9);
        label(x, 1, 2, 0, 5, 1, 9, 2, 0);
        label(x, 1, 3, 0, 9, 1, 7, 2, 4, 3, 0);
        label(x, 0, 2, 2, 0);
    }

    private static void damageTillTheNextMake() {
        Watched x = chain();
        x.make();
        x.damage(1, 3, 0, 7);
        x.damage(1, 3, 0, 7);
        due("13 twice as much", x.ask(0, 3), 23);
        x.rank(0, 9);
        x.arc(0, 0, 9);
        x.lose(3, 0);
        x.landmark(0, true);
        due("13 refused calls undo nothing", x.ask(0, 3), 23);
        x.make();
        due("13 make() undoes it", x.ask(0, 3), 9);
        due("13 make() undoes it", x.label(1, 3, 0, 1), 9);
        x.damage(1, 3, 0, 7);
        x.arc(3, 0, 1);
        due("13 not behind a change", x.damage(1, 3, 0, 7), TURN);
        x.lose(3, 0);
        x.make();
        due("13 undone behind a change", x.label(1, 3, 0, 1), 9);
        due("14 undone behind a change", x.check(), NONE);
    }

    private static void askedGoesByDamage() {
        Watched x = made(2, a(0, 1, 1), a(1, 0, 1));
        due("13 OUT of 1, itself", x.damage(0, 1, 1, 5), 5);
        // By 0: one there and one back.
        due("10 there and back", x.ask(1, 1), 2);
        due("11 there and back", x.meeting(1, 1), 0);
        due("14 there and back", x.check(), 17);
        due("13 OUT of 1, to 0", x.damage(0, 1, 0, 9), 10);
        due("10 by itself again", x.ask(1, 1), 5);
        due("11 by itself again", x.meeting(1, 1), 1);
        due("10 from 1 to 0", x.ask(1, 0), 10);
        due("10 from 0 to 1", x.ask(0, 1), 1);
    }

    private static void onlyAskedGoesByDamage() {
        Watched x = chain();
        x.landmark(1, true);
        x.make();
        for (int v = 0; v < 4; v++) {
            x.damage(0, v, 0, 100);
            x.damage(1, v, 0, 100);
        }
        due("10 ask()", x.ask(0, 3), 209);
        due("16 climb()", x.climb(0, 3), 9);
        due("17 way()", x.way(0, 3, -1), 4);
        due("17 way()", x.way(0, 3, 1), 1);
        due("18 least()", x.least(1, 3), 7);
        due("19 most()", x.most(0, 3), 9);
        due("15 shortcut()", x.shortcut(-1, 0), 0);
        due("12 redone()", x.redone(), 14);
    }

    // ---- 14 'The first pair of NODES (by a, then b) for which ASKED is not the DISTANCE: 16 a and b. NONE'

    private static void checkFindsNone() {
        due("14 no nodes", made(0).check(), NONE);
        due("14 one node", made(1).check(), NONE);
        due("14 no ways", made(16).check(), NONE);
        Watched x = diamond();
        order(x, 1, 2, 0, 3);
        x.make();
        due("14 whole", x.check(), NONE);
        // OUT of 0 has 1, 2 and 0 itself, which is in IN of 0 alone.
        x.damage(0, 0, 2, 1);
        due("14 (0, 0)", x.check(), 0);
        x.damage(0, 0, 2, -1);
        due("14 damage undone by hand", x.check(), NONE);
        x.damage(0, 0, 2, 0);
        due("14 damage by 0", x.check(), NONE);
        x.damage(0, 0, 1, 7);
        due("14 (0, 2) goes by 2 alone", x.check(), 2);
        due("10 (0, 3) goes by 1, too", x.ask(0, 3), 2);
    }

    private static void checkFindsTheFirst() {
        Watched x = made(3, a(0, 1, 1), a(0, 2, 1), a(1, 0, 1), a(1, 2, 5));
        // Stations by row 0 1 2: the distance from 1 to 2 is 2, by 0.
        x.damage(0, 1, 0, 1);
        due("14 (1, 0) before (1, 2)", x.check(), 16);
        x.damage(1, 2, 0, 1);
        due("14 (0, 2) before (1, 0)", x.check(), 2);
        x.damage(1, 1, 0, 1);
        due("14 (0, 1) before (0, 2)", x.check(), 1);
        x.damage(1, 1, 0, -1);
        x.damage(1, 2, 0, -1);
        due("14 (1, 0) again", x.check(), 16);
        x.damage(0, 1, 0, -1);
        due("14 none again", x.check(), NONE);
        x.damage(0, 1, 0, -1);
        due("14 less is wrong, too", x.check(), 16);
    }

    private static void checkOfOneNode() {
        Watched x = made(3);
        x.damage(1, 2, 0, 1);
        due("14 (2, 2)", x.check(), 34);
        x.damage(0, 1, 0, 1);
        due("14 (1, 1)", x.check(), 17);
        x.damage(0, 0, 0, 1);
        due("14 (0, 0)", x.check(), 0);
    }

    private static void checkAtTheEnds() {
        Watched x = longest();
        x.make();
        x.damage(1, 15, 0, 1);
        due("14 (0, 15)", x.check(), 15);
        x.make();
        x.damage(1, 15, 15, 1);
        due("14 (15, 15)", x.check(), 255);
        x.damage(1, 15, 14, -1);
        due("14 (14, 15)", x.check(), 14 * 16 + 15);
        Watched y = made(16, a(15, 0, 9));
        y.damage(0, 15, 0, 1);
        due("14 (15, 0)", y.check(), 15 * 16);
    }
}

/** The edges of a PLAN (term III): how many DOORS wait, how few LOGS there are, and what is told. */
public final class PlanEdgeTest {
    private final Checks c = new Checks();

    public static void main(String[] args) {
        PlanEdgeTest t = new PlanEdgeTest();
        t.everyNumberOfDoors();
        t.madeDoorsDoNotCount();
        t.everySetOfLogs();
        t.oneMoreThanThereIsRoom();
        t.fewestAheadOfLeast();
        t.leastAtTheFirstThatDiffers();
        t.triedCutsAreTakenBack();
        t.lostCutsAreTaken();
        t.toldNever();
        t.toldAndThenRefused();
        t.toldAndThenChanged();
        t.c.finish();
    }

    private void duePlanned(String name, int... logs) {
        for (int d = 0; d < 8; d++) {
            c.due(name + ": planned(" + d + ")", c.desk.planned(d), d < logs.length ? logs[d] : -1);
        }
    }

    /** "At most 3 DOORS."; plan: "-1 there is no such DOOR, or there are more than 3". */
    private void everyNumberOfDoors() {
        VeneerDesk x = c.part("how many DOORS wait");
        x.log(1, 12, 60, 40, 0);
        c.due("0 DOORS", x.plan(), -1);
        duePlanned("0 DOORS");
        for (int count = 1; count <= 8; count++) {
            // The last DOOR is told first.
            c.door(8 - count, 1, 1, 0, "0");
            c.due(count + " DOORS", x.plan(), count <= 3 ? 1 : -1);
            for (int d = 0; d < 8; d++) {
                boolean told = d >= 8 - Math.min(count, 3);
                c.due(count + " DOORS, planned(" + d + ")", x.planned(d), told ? 1 : -1);
            }
        }
    }

    /** "PLAN of all DOORS that are there and not made" */
    private void madeDoorsDoNotCount() {
        VeneerDesk x = c.part("made DOORS");
        x.log(2, 12, 60, 40, 0);
        for (int d = 0; d < 8; d++) {
            c.door(d, 1, 1, 0, "0");
        }
        for (int made = 0; made < 8; made++) {
            c.due(made + " made", x.plan(), 8 - made <= 3 ? 1 : -1);
            c.due("make", x.make(made, 2), 1);
        }
        c.due("all made", x.plan(), -1);
        duePlanned("the last that waited", -1, -1, -1, -1, -1, -1, -1, 2);
        for (int d = 0; d < 4; d++) {
            c.due("free", x.free(d), true);
            c.due(d + 1 + " free", x.plan(), d < 3 ? 1 : -1);
        }
        duePlanned("three free", 2, 2, 2);
    }

    /** Each set of LOGS that are there, and one DOOR that one of them has room for. */
    private void everySetOfLogs() {
        for (int there = 0; there < 8; there++) {
            for (int fitting = 0; fitting < 8; fitting++) {
                VeneerDesk x = c.part("LOGS " + there + ", of which fit " + fitting);
                c.door(3, 12, 10, 0, "0");
                int least = -1;
                for (int l = 2; l >= 0; l--) {
                    boolean fits = (fitting >> l & 1) == 1;
                    if ((there >> l & 1) == 1) {
                        x.log(l, 1, 10, fits ? 12 : 11, 0);
                        least = fits ? l : least;
                    }
                }
                c.due("plan()", x.plan(), least < 0 ? -2 : 1);
                duePlanned("one DOOR", -1, -1, -1, least);
            }
        }
    }

    /** "-2 there is no PLAN": room for so many DOORS, and one less. */
    private void oneMoreThanThereIsRoom() {
        for (int count = 1; count <= 3; count++) {
            for (int room = 0; room <= 3; room++) {
                VeneerDesk x = c.part(count + " DOORS, room for " + room);
                for (int l = 0; l < room; l++) {
                    x.log(l, 1, 10, 10, 0);
                }
                for (int d = 0; d < count; d++) {
                    c.door(d, 10, 10, 0, "0");
                }
                c.due("plan()", x.plan(), count <= room ? count : -2);
                for (int d = 0; d < count; d++) {
                    c.due("planned(" + d + ")", x.planned(d), count <= room ? d : -1);
                }
            }
        }
    }

    /** "with the fewest LOGS that have some of them" */
    private void fewestAheadOfLeast() {
        VeneerDesk x = c.part("the fewest LOGS");
        for (int d = 0; d < 3; d++) {
            c.door(d, 10, 10, 0, "0");
        }
        x.log(0, 2, 10, 10, 0);
        x.log(1, 2, 10, 10, 0);
        x.log(2, 3, 10, 10, 0);
        c.due("three in LOG 2", x.plan(), 1);
        duePlanned("three in LOG 2", 2, 2, 2);
        x.log(2, 2, 10, 10, 0);
        c.due("two LOGS", x.plan(), 2);
        duePlanned("two LOGS", 0, 0, 1);
        x.log(0, 1, 10, 10, 0);
        c.due("two LOGS, one in the first", x.plan(), 2);
        duePlanned("two LOGS, one in the first", 0, 1, 1);
        x.log(1, 1, 10, 10, 0);
        c.due("two LOGS, two in the last", x.plan(), 2);
        duePlanned("two LOGS, two in the last", 0, 2, 2);
        x.log(2, 1, 10, 10, 0);
        c.due("three LOGS", x.plan(), 3);
        duePlanned("three LOGS", 0, 1, 2);
        x.flaw(2, 0, 9, 9, 1, 1);
        c.due("no LOG for the third", x.plan(), -2);
        duePlanned("stays", 0, 1, 2);
    }

    /** "of several the one with the least LOG at the first DOOR in which two of them differ" */
    private void leastAtTheFirstThatDiffers() {
        VeneerDesk x = c.part("the least LOG");
        x.log(0, 1, 10, 10, 0);
        x.log(1, 1, 20, 12, 0);
        x.log(2, 1, 20, 12, 0);
        // DOOR 1 has no room in LOG 0; DOORS 0 and 2 have room in each.
        c.door(0, 10, 10, 0, "0");
        c.door(1, 12, 10, 0, "0");
        c.door(2, 10, 10, 0, "0");
        c.due("plan()", x.plan(), 2);
        duePlanned("DOOR 0 in LOG 0, the others in LOG 1", 0, 1, 1);
        c.door(2, 12, 20, 0, "0");
        c.due("plan()", x.plan(), 2);
        duePlanned("DOOR 2 needs a LOG, DOORS 0 and 1 the other", 1, 1, 2);
        c.door(0, 12, 20, 0, "0");
        c.door(1, 10, 10, 0, "0");
        c.due("plan()", x.plan(), 3);
        duePlanned("DOORS 0 and 2 need one each", 1, 0, 2);
    }

    /** Trying a PLAN cuts nothing, whether there is one or not. */
    private void triedCutsAreTakenBack() {
        VeneerDesk x = c.part("CUTS that were tried");
        x.log(0, 2, 20, 10, 0);
        x.log(2, 2, 20, 10, 0);
        c.door(0, 10, 10, 0, "0|1");
        c.door(1, 10, 10, 0, "0|1");
        c.door(2, 10, 20, 0, "1");
        for (int n = 0; n < 3; n++) {
            c.due("plan()", x.plan(), 2);
            duePlanned("plan", 0, 0, 2);
            dueNoCuts(x);
        }
        c.door(2, 10, 21, 0, "0");
        for (int n = 0; n < 3; n++) {
            c.due("no PLAN", x.plan(), -2);
            dueNoCuts(x);
        }
        c.due("make(0, 0)", x.make(0, 0), 2);
        c.due("make(1, 0)", x.make(1, 0), 2);
        c.due("its height", x.of(1, 8), 10);
    }

    private void dueNoCuts(VeneerDesk x) {
        for (int i = 0; i < 2; i++) {
            c.due("CUTS of LOG 0, LEAF " + i, x.leaf(0, i, 3), 0);
            c.due("CUTS of LOG 2, LEAF " + i, x.leaf(2, i, 3), 0);
        }
        for (int d = 0; d < 3; d++) {
            for (int what = 6; what < 10; what++) {
                c.due("of(" + d + ", " + what + ")", x.of(d, what), -1);
            }
        }
        c.due("the whole LEAF is free", x.why(0, 0, 0, 10, 0), 0);
    }

    private void lostCutsAreTaken() {
        VeneerDesk x = c.part("lost CUTS");
        x.log(0, 1, 10, 10, 0);
        c.door(0, 10, 10, 0, "0");
        c.due("plan()", x.plan(), 1);
        c.due("make", x.make(0, 0), 1);
        c.door(0, 1, 1, 0, "0");
        c.due("its CUT is lost", x.plan(), -2);
        x.log(0, 1, 10, 10, 0);
        c.due("a new LOG", x.plan(), 1);
    }

    /** planned: "NONE without". */
    private void toldNever() {
        VeneerDesk x = c.part("no PLAN was told");
        duePlanned("a new desk");
        c.due("plan()", x.plan(), -1);
        duePlanned("no DOOR");
        c.door(0, 1, 1, 0, "0");
        c.due("plan()", x.plan(), -2);
        duePlanned("no LOG");
        x.log(0, 1, 10, 10, 0);
        duePlanned("not asked again");
        c.due("make", x.make(0, 0), 1);
        duePlanned("made without a PLAN");
    }

    /** planned: "in the latest PLAN that was told": -1 and -2 tell none. */
    private void toldAndThenRefused() {
        VeneerDesk x = c.part("told, and then refused");
        x.log(1, 1, 10, 10, 0);
        c.door(2, 10, 10, 0, "0");
        c.due("plan()", x.plan(), 1);
        c.door(3, 10, 10, 0, "0");
        c.due("no room", x.plan(), -2);
        duePlanned("behind -2", -1, -1, 1);
        c.door(4, 10, 10, 0, "0");
        c.door(5, 10, 10, 0, "0");
        c.due("four DOORS", x.plan(), -1);
        duePlanned("behind -1", -1, -1, 1);
        x.log(0, 3, 20, 10, 0);
        c.due("four DOORS", x.plan(), -1);
        c.due("make", x.make(2, 1), 1);
        c.due("three DOORS", x.plan(), 1);
        duePlanned("told anew", -1, -1, -1, 0, 0, 0);
    }

    private void toldAndThenChanged() {
        VeneerDesk x = c.part("told, and then changed");
        x.log(2, 1, 10, 10, 0);
        c.door(0, 5, 10, 0, "0");
        c.door(7, 5, 10, 0, "0");
        c.due("plan()", x.plan(), 1);
        duePlanned("told", 2, -1, -1, -1, -1, -1, -1, 2);
        c.due("make", x.make(0, 2), 1);
        c.due("free", x.free(0), true);
        c.door(7, 60, 60, 0, "0");
        x.log(2, 12, 60, 40, 2);
        x.log(0, 12, 60, 40, 2);
        duePlanned("stays what was told", 2, -1, -1, -1, -1, -1, -1, 2);
        c.due("plan()", x.plan(), 1);
        duePlanned("told anew", 0, -1, -1, -1, -1, -1, -1, 0);
    }
}

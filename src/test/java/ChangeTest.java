/** Promises 8 to 17: the calls that change the state, with undo(), save() and restore(). */
final class ChangeTest {
    private static final int MIN = Integer.MIN_VALUE;
    private static final int MAX = Integer.MAX_VALUE;

    public static void main(String[] args) {
        promise8Buy();
        promise8BuyRefuses();
        promise9Ride();
        promise9RideRefuses();
        promise10Inspect();
        promise10InspectRefuses();
        promise10TwentyCases();
        promise11WaitFor();
        promise12Appeal();
        promise12AppealRefuses();
        promise13DecideReduced();
        promise13DecideRejected();
        promise13DecideRefuses();
        promise14Pay();
        promise14PayRefuses();
        promise15Undo();
        promise15NineChanges();
        promise15And17Inspected();
        promise15ExceptionsAreNoChanges();
        promise16Save();
        promise17Restore();
        Check.end("ChangeTest");
    }

    /** ann (9000) with a case since minute 0, on the tram until minute 14. */
    private static TicketCheck withCase() {
        TicketCheck x = new TicketCheck();
        x.ride(0, 0, 7, -1);
        x.inspect(0);
        return x;
    }

    private static void promise8Buy() {
        TicketCheck x = new TicketCheck();
        Check.due("the first ticket", 0, x.buy(2, TicketCheck.SINGLE, 11));
        Check.due("single: 200 a zone", 19400, x.money(2));
        Check.due("the next ticket", 1, x.buy(2, TicketCheck.DAY, 5));
        Check.due("day: 500 a zone", 18400, x.money(2));
        Check.due("another one's ticket", 2, x.buy(0, TicketCheck.SHORT, 15));
        Check.due("short: 150", 8850, x.money(0));
        Check.due("buying is a change", 3, x.undoableChanges());
        Check.due("zones that are not on the line can be bought", 3, x.buy(1, 0, 8));
        Check.due("all zones", 4, x.buy(2, 1, 15));
        Check.due("day: 2000 for four zones", 16400, x.money(2));
        TicketCheck y = Check.loaded("line 0 1;passenger a 150;passenger b 200;passenger c 2000;passenger d 0;");
        Check.due("the last cents", 0, y.buy(0, 2, 15));
        Check.due("nothing is left", 0, y.money(0));
        Check.due("the last cents for a single ticket", 1, y.buy(1, 0, 4));
        Check.due("the last cents for a day ticket", 2, y.buy(2, 1, 15));
        Check.dueThrow("no cents at all", y, Check.NOT_NOW, () -> y.buy(3, 2, 1));
    }

    private static void promise8BuyRefuses() {
        TicketCheck x = Check.loaded("line 0 1;passenger a 149;passenger b 199;passenger c 1999;passenger d 99999;");
        for (int passenger : new int[] {-1, 4, MIN, MAX}) {
            Check.dueThrow("no passenger", x, Check.NO_SUCH, () -> x.buy(passenger, 0, 1));
            Check.dueThrow("no passenger goes before a wrong kind", x, Check.NO_SUCH, () -> x.buy(passenger, 3, 0));
        }
        for (int kind : new int[] {-1, 3, MIN, MAX}) {
            Check.dueThrow("no kind", x, Check.BAD, () -> x.buy(3, kind, 1));
            Check.dueThrow("a wrong kind goes before the money", x, Check.BAD, () -> x.buy(0, kind, 1));
        }
        for (int zones : new int[] {0, 16, -1, MIN, MAX}) {
            Check.dueThrow("no zones", x, Check.BAD, () -> x.buy(3, 0, zones));
            Check.dueThrow("wrong zones go before the money", x, Check.BAD, () -> x.buy(0, 2, zones));
        }
        Check.dueThrow("one cent less than short", x, Check.NOT_NOW, () -> x.buy(0, 2, 1));
        Check.dueThrow("one cent less than single", x, Check.NOT_NOW, () -> x.buy(1, 0, 1));
        Check.dueThrow("one cent less than day", x, Check.NOT_NOW, () -> x.buy(2, 1, 15));
        for (int i = 0; i < 30; i++) {
            Check.due("ticket " + i, i, x.buy(3, i % 3, 1));
        }
        Check.dueThrow("a 31st ticket", x, Check.NOT_NOW, () -> x.buy(3, 2, 1));
        Check.load(x, Check.SMALL);
        Check.due("a load makes room", 0, x.buy(0, 2, 1));
    }

    private static void promise9Ride() {
        TicketCheck x = new TicketCheck();
        x.buy(0, 0, 3);
        x.waitFor(5);
        Check.due("2 minutes a stop", 15, x.ride(0, 1, 6, 0));
        Check.due("the time is stamped", 5, x.stampTime(0));
        Check.due("the first stop is stamped", 1, x.stampStop(0));
        Check.due("one ride", 1, x.ticketRides(0));
        Check.due("the clock stays", 5, x.clock());
        Check.due("backwards, without a ticket", 19, x.ride(1, 7, 0, TicketCheck.NONE));
        Check.due("riding is a change", 4, x.undoableChanges());
        x.waitFor(10);
        Check.due("the next ride begins at the end", 17, x.ride(0, 6, 5, 0));
        Check.due("the stamped time stays", 5, x.stampTime(0));
        Check.due("the stamped stop stays", 1, x.stampStop(0));
        Check.due("two rides", 2, x.ticketRides(0));
        x.waitFor(2);
        Check.due("a ride from another stop than the last one", 19, x.ride(0, 0, 1, -1));
        Check.due("a ride without a ticket counts for none", 2, x.ticketRides(0));
        TicketCheck y = new TicketCheck();
        Check.waitLong(y, 99999);
        Check.due("a ride may end after 99999", 100013, y.ride(0, 0, 7, -1));
        Check.due("still on the tram", true, y.isRiding(0));
    }

    private static void promise9RideRefuses() {
        TicketCheck x = new TicketCheck();
        x.buy(1, 0, 1);
        for (int no : new int[] {-1, MIN, MAX, 8}) {
            Check.dueThrow("no passenger", x, Check.NO_SUCH, () -> x.ride(no, 0, 1, -1));
            Check.dueThrow("no first stop", x, Check.NO_SUCH, () -> x.ride(0, no, 1, -1));
            Check.dueThrow("no last stop", x, Check.NO_SUCH, () -> x.ride(0, 0, no, -1));
            Check.dueThrow("no stops at all", x, Check.NO_SUCH, () -> x.ride(0, no, no, -1));
        }
        Check.dueThrow("no passenger 3", x, Check.NO_SUCH, () -> x.ride(3, 0, 1, -1));
        for (int ticket : new int[] {-2, 1, MIN, MAX}) {
            Check.dueThrow("no ticket", x, Check.NO_SUCH, () -> x.ride(0, 0, 1, ticket));
            Check.dueThrow("no ticket goes before the same stop", x, Check.NO_SUCH, () -> x.ride(0, 1, 1, ticket));
        }
        Check.dueThrow("the same stop", x, Check.BAD, () -> x.ride(0, 3, 3, -1));
        Check.dueThrow("the same stop goes before another one's ticket", x, Check.BAD, () -> x.ride(0, 3, 3, 0));
        Check.dueThrow("another one's ticket", x, Check.NOT_NOW, () -> x.ride(0, 3, 4, 0));
        x.ride(0, 0, 2, -1);
        Check.dueThrow("on the tram", x, Check.NOT_NOW, () -> x.ride(0, 2, 3, -1));
        Check.dueThrow("the same stop goes before the tram", x, Check.BAD, () -> x.ride(0, 2, 2, -1));
        x.waitFor(3);
        Check.dueThrow("on the tram to the last minute", x, Check.NOT_NOW, () -> x.ride(0, 2, 3, -1));
        x.waitFor(1);
        Check.due("not on the tram at the end", 6, x.ride(0, 2, 3, -1));
    }

    private static void promise10Inspect() {
        TicketCheck x = new TicketCheck();
        x.buy(0, 0, 3);
        x.ride(0, 0, 4, 0);
        Check.due("no fault", 0, x.inspect(0));
        Check.due("no case", 0, x.caseCount());
        Check.due("one inspection", 1, x.inspections());
        Check.due("an inspection is a change", 3, x.undoableChanges());
        x.ride(1, 3, 6, -1);
        x.waitFor(5);
        Check.due("fault 1", 1, x.inspect(1));
        Check.due("a case", 1, x.caseCount());
        Check.due("its passenger", 1, x.casePassenger(0));
        Check.due("its fault", 1, x.caseFault(0));
        Check.due("its time", 5, x.caseTime(0));
        Check.due("it is open", TicketCheck.OPEN, x.caseState(0));
        Check.due("it costs 6000", 6000, x.amountDue(0));
        Check.due("it has no ticket", -1, x.caseTicket(0));
        Check.due("two inspections", 2, x.inspections());
        Check.due("the money stays", 1200, x.money(1));
        x.waitFor(3);
        x.ride(0, 4, 3, 0);
        Check.due("the next ride can be inspected", 0, x.inspect(0));
        Check.due("three inspections", 3, x.inspections());
    }

    private static void promise10InspectRefuses() {
        TicketCheck x = new TicketCheck();
        for (int passenger : new int[] {-1, 3, MIN, MAX}) {
            Check.dueThrow("no passenger", x, Check.NO_SUCH, () -> x.inspect(passenger));
        }
        Check.dueThrow("no ride yet", x, Check.NOT_NOW, () -> x.inspect(0));
        x.ride(0, 0, 1, -1);
        x.inspect(0);
        Check.dueThrow("inspected with a fault already", x, Check.NOT_NOW, () -> x.inspect(0));
        x.buy(1, 0, 1);
        x.ride(1, 0, 1, 0);
        x.inspect(1);
        Check.dueThrow("inspected without a fault already", x, Check.NOT_NOW, () -> x.inspect(1));
        x.waitFor(1);
        x.ride(2, 0, 1, -1);
        Check.dueThrow("inspected a minute ago", x, Check.NOT_NOW, () -> x.inspect(0));
        x.waitFor(2);
        Check.dueThrow("the tram has arrived", x, Check.NOT_NOW, () -> x.inspect(2));
        x.undo();
        x.waitFor(1);
        Check.due("in the last minute", 1, x.inspect(2));
    }

    private static void promise10TwentyCases() {
        TicketCheck x = new TicketCheck();
        Check.due("19 cases", 57, Check.play(x, "ride cy 0 1;inspect cy;wait 2;".repeat(19)));
        x.buy(0, 0, 1);
        x.ride(0, 0, 1, 0);
        Check.due("an inspection without a fault", 0, x.inspect(0));
        x.ride(1, 0, 1, -1);
        Check.due("the 20th case", 1, x.inspect(1));
        Check.due("20 cases", 20, x.caseCount());
        x.waitFor(2);
        x.ride(0, 0, 1, 0);
        x.ride(1, 0, 1, -1);
        Check.dueThrow("no inspection without a fault", x, Check.NOT_NOW, () -> x.inspect(0));
        Check.dueThrow("no inspection with a fault", x, Check.NOT_NOW, () -> x.inspect(1));
        x.buy(2, 1, 1);
        Check.due("the last case can be appealed", 1, x.appeal(19, 1));
        Check.due("21 inspections", 21, x.inspections());
    }

    private static void promise11WaitFor() {
        TicketCheck x = new TicketCheck();
        Check.due("1 minute", 1, x.waitFor(1));
        Check.due("9999 minutes", 10000, x.waitFor(9999));
        for (int minutes : new int[] {0, -1, 10000, MIN, MAX}) {
            Check.dueThrow("minutes", x, Check.BAD, () -> x.waitFor(minutes));
        }
        Check.due("waiting is a change", 2, x.undoableChanges());
        Check.waitLong(x, 89990);
        Check.due("near the end", 99990, x.clock());
        Check.dueThrow("one minute too many", x, Check.NOT_NOW, () -> x.waitFor(10));
        Check.dueThrow("many minutes too many", x, Check.NOT_NOW, () -> x.waitFor(9999));
        Check.dueThrow("wrong minutes go before the clock", x, Check.BAD, () -> x.waitFor(10000));
        Check.due("to the end", 99999, x.waitFor(9));
        Check.dueThrow("behind the end", x, Check.NOT_NOW, () -> x.waitFor(1));
        Check.dueThrow("no minutes behind the end", x, Check.BAD, () -> x.waitFor(0));
    }

    private static void promise12Appeal() {
        TicketCheck x = withCase();
        x.ride(1, 0, 7, -1);
        x.inspect(1);
        x.ride(2, 0, 7, -1);
        x.inspect(2);
        x.buy(1, 1, 1);
        x.buy(2, 2, 1);
        int changes = x.undoableChanges();
        Check.due("the first appeal", 1, x.appeal(1, 1));
        Check.due("the case is appealed", TicketCheck.APPEALED, x.caseState(1));
        Check.due("it names the ticket", 1, x.caseTicket(1));
        Check.due("the others are open", TicketCheck.OPEN, x.caseState(0));
        Check.due("the others name no ticket", -1, x.caseTicket(2));
        Check.due("it costs the same", 6000, x.amountDue(1));
        Check.due("the second appeal", 2, x.appeal(0, 0));
        x.decide(1);
        Check.due("one is decided", 2, x.appeal(2, 0));
        Check.due("one change each", 8, changes);
        x.undo();
        x.undo();
        x.undo();
        x.undo();
        Check.due("four changes", 4, x.undoableChanges());
        Check.due("undone", TicketCheck.OPEN, x.caseState(1));
        Check.due("the ticket is undone", -1, x.caseTicket(1));
    }

    private static void promise12AppealRefuses() {
        TicketCheck x = withCase();
        Check.dueThrow("there is no ticket", x, Check.NO_SUCH, () -> x.appeal(0, 0));
        x.buy(0, 1, 7);
        for (int no : new int[] {-1, 1, MIN, MAX}) {
            Check.dueThrow("no case", x, Check.NO_SUCH, () -> x.appeal(no, 0));
            Check.dueThrow("no ticket", x, Check.NO_SUCH, () -> x.appeal(0, no));
        }
        x.appeal(0, 0);
        Check.dueThrow("appealed", x, Check.NOT_NOW, () -> x.appeal(0, 0));
        Check.dueThrow("no ticket goes before the state", x, Check.NO_SUCH, () -> x.appeal(0, 1));
        x.decide(0);
        Check.dueThrow("rejected", x, Check.NOT_NOW, () -> x.appeal(0, 0));
        x.pay(0);
        Check.dueThrow("paid", x, Check.NOT_NOW, () -> x.appeal(0, 0));
        TicketCheck y = withCase();
        y.buy(0, 1, 7);
        Check.waitLong(y, 20161);
        Check.dueThrow("overdue", y, Check.NOT_NOW, () -> y.appeal(0, 0));
        y.undo();
        y.waitFor(162);
        Check.due("14 days later, not overdue", 1, y.appeal(0, 0));
        TicketCheck z = reducible();
        z.appeal(0, 0);
        z.decide(0);
        Check.dueThrow("reduced", z, Check.NOT_NOW, () -> z.appeal(0, 0));
    }

    /** Case 0: ann on the first day without a ticket, zones 0 to 2; her day ticket 0 is stamped at that time. */
    private static TicketCheck reducible() {
        TicketCheck x = new TicketCheck();
        x.buy(0, 1, 7);
        x.waitFor(10);
        x.ride(0, 0, 1, 0);
        x.waitFor(2);
        x.ride(0, 0, 7, -1);
        x.inspect(0);
        return x;
    }

    private static void promise13DecideReduced() {
        TicketCheck x = reducible();
        x.appeal(0, 0);
        Check.due("reduced", TicketCheck.REDUCED, x.decide(0));
        Check.due("the state", TicketCheck.REDUCED, x.caseState(0));
        Check.due("700 to pay", 700, x.amountDue(0));
        Check.due("the ticket stays named", 0, x.caseTicket(0));
        x.undo();
        Check.due("undone", TicketCheck.APPEALED, x.caseState(0));
        Check.due("6000 again", 6000, x.amountDue(0));
        Check.waitLong(x, 30000);
        Check.due("an overdue case can be decided", TicketCheck.REDUCED, x.decide(0));
        Check.due("it costs 1500 more", 2200, x.amountDue(0));
        TicketCheck y = new TicketCheck();
        Check.play(y, "buy ann day 1;ride ann 0 1 with 0;wait 1438;ride ann 2 0;wait 1;inspect ann;");
        y.waitFor(3);
        y.ride(0, 7, 6, -1);
        y.appeal(0, 0);
        Check.due("inspected in the last minute of the day, decided on the next one, during another ride",
                TicketCheck.REDUCED, y.decide(0));
    }

    private static void decidesRejected(String what, String script) {
        TicketCheck x = new TicketCheck();
        Check.due(what + " can be played", true, Check.play(x, script) > 0);
        Check.due(what, TicketCheck.REJECTED, x.decide(0));
        Check.due(what + ": the state", TicketCheck.REJECTED, x.caseState(0));
        Check.due(what + ": 500 more", 6500, x.amountDue(0));
    }

    private static void promise13DecideRejected() {
        String ride = "wait 1440;ride ann 0 7;inspect ann;";
        decidesRejected("another one's ticket", "buy cy day 7;wait 1440;ride cy 0 1 with 0;ride ann 0 7;inspect ann;appeal 0 0;");
        decidesRejected("a single ticket", "buy ann single 7;wait 1440;ride ann 0 1 with 0;wait 2;ride ann 0 7;inspect ann;appeal 0 0;");
        decidesRejected("a short ticket", "buy ann short 7;wait 1440;ride ann 0 1 with 0;wait 2;ride ann 0 7;inspect ann;appeal 0 0;");
        decidesRejected("a ticket that is not stamped", "buy ann day 7;" + ride + "appeal 0 0;");
        decidesRejected("a ticket that is not stamped, on day 0", "buy ann day 7;ride ann 0 7;inspect ann;appeal 0 0;");
        decidesRejected("a ticket stamped later", "buy ann day 7;" + ride + "wait 14;ride ann 0 1 with 0;appeal 0 0;");
        decidesRejected("a ticket stamped the day before",
                "buy ann day 7;wait 1437;ride ann 0 1 with 0;wait 3;ride ann 0 7;inspect ann;appeal 0 0;");
        decidesRejected("a ticket without zone 2", "buy ann day 3;ride ann 0 1 with 0;wait 2;ride ann 0 7;inspect ann;appeal 0 0;");
        decidesRejected("a ticket without zone 1", "buy ann day 5;ride ann 0 1 with 0;wait 2;ride ann 7 0;inspect ann;appeal 0 0;");
        decidesRejected("the ticket of the inspected ride", "buy ann day 3;ride ann 0 7 with 0;inspect ann;appeal 0 0;");
        TicketCheck x = new TicketCheck();
        Check.play(x, "buy ann day 7;ride ann 0 7;inspect ann;appeal 0 0;wait 30;");
        x.ride(0, 0, 1, 0);
        Check.due("stamped after the appeal", TicketCheck.REJECTED, x.decide(0));
    }

    private static void promise13DecideRefuses() {
        TicketCheck x = withCase();
        for (int no : new int[] {-1, 1, MIN, MAX}) {
            Check.dueThrow("no case", x, Check.NO_SUCH, () -> x.decide(no));
        }
        Check.dueThrow("open", x, Check.NOT_NOW, () -> x.decide(0));
        x.buy(0, 1, 7);
        x.appeal(0, 0);
        Check.due("deciding is a change", 4, x.undoableChanges());
        x.decide(0);
        Check.due("one more", 5, x.undoableChanges());
        Check.dueThrow("rejected", x, Check.NOT_NOW, () -> x.decide(0));
        x.pay(0);
        Check.dueThrow("paid", x, Check.NOT_NOW, () -> x.decide(0));
        TicketCheck y = reducible();
        y.appeal(0, 0);
        y.decide(0);
        Check.dueThrow("reduced", y, Check.NOT_NOW, () -> y.decide(0));
    }

    private static void promise14Pay() {
        TicketCheck x = withCase();
        Check.due("an open case", 6000, x.pay(0));
        Check.due("the money is taken", 3000, x.money(0));
        Check.due("the state", TicketCheck.PAID, x.caseState(0));
        Check.due("the total", 6000, x.finesPaid());
        Check.due("paying is a change", 3, x.undoableChanges());
        x.undo();
        Check.due("the money is back", 9000, x.money(0));
        Check.due("the total is back", 0, x.finesPaid());
        x.buy(0, 2, 1);
        x.appeal(0, 0);
        x.decide(0);
        Check.due("a rejected case", 6500, x.pay(0));
        x.undo();
        Check.waitLong(x, 20160);
        Check.due("14 days later", 6500, x.pay(0));
        x.undo();
        x.waitFor(1);
        Check.due("an overdue rejected case", 8000, x.pay(0));
        Check.due("8850 less 8000", 850, x.money(0));
        TicketCheck y = reducible();
        y.appeal(0, 0);
        y.decide(0);
        Check.due("a reduced case", 700, y.pay(0));
        y.undo();
        Check.waitLong(y, 20161);
        Check.due("an overdue reduced case", 2200, y.pay(0));
        TicketCheck z = withCase();
        Check.waitLong(z, 20161);
        Check.due("an overdue open case", 7500, z.pay(0));
        TicketCheck exact = Check.loaded("line 0 1;passenger a 6000;ride a 0 1;inspect a;");
        Check.due("the last cents", 6000, exact.pay(0));
        Check.due("nothing is left", 0, exact.money(0));
    }

    private static void promise14PayRefuses() {
        TicketCheck x = withCase();
        for (int no : new int[] {-1, 1, MIN, MAX}) {
            Check.dueThrow("no case", x, Check.NO_SUCH, () -> x.pay(no));
        }
        x.buy(0, 2, 1);
        x.appeal(0, 0);
        Check.dueThrow("appealed", x, Check.NOT_NOW, () -> x.pay(0));
        x.decide(0);
        x.pay(0);
        Check.dueThrow("paid", x, Check.NOT_NOW, () -> x.pay(0));
        TicketCheck y = Check.loaded("line 0 1;passenger a 5999;passenger b 7499;ride a 0 1;inspect a;ride b 0 1;inspect b;");
        Check.dueThrow("a cent is missing", y, Check.NOT_NOW, () -> y.pay(0));
        Check.waitLong(y, 20161);
        Check.dueThrow("a cent is missing when it is overdue", y, Check.NOT_NOW, () -> y.pay(1));
        y.undo();
        y.waitFor(162);
        Check.due("in time", 6000, y.pay(1));
    }

    private static void promise15Undo() {
        TicketCheck x = new TicketCheck();
        Check.dueThrow("nothing to undo", x, Check.NOT_NOW, () -> x.undo());
        String[] pictures = new String[8];
        pictures[0] = Check.statePicture(x);
        x.buy(0, 1, 1);
        pictures[1] = Check.statePicture(x);
        x.ride(0, 0, 7, 0);
        pictures[2] = Check.statePicture(x);
        x.inspect(0);
        pictures[3] = Check.statePicture(x);
        x.waitFor(14);
        pictures[4] = Check.statePicture(x);
        x.appeal(0, 0);
        pictures[5] = Check.statePicture(x);
        x.decide(0);
        pictures[6] = Check.statePicture(x);
        x.pay(0);
        pictures[7] = Check.statePicture(x);
        Check.play(x, "ride bob 0 1;inspect bob;");
        x.writeCases();
        x.append(0x77616974, 0x20313b20, 0x20202020, 0x20202020, 0x20202020);
        for (int i = 7; i >= 0; i--) {
            Check.due("changes left", i, x.undo());
            Check.due("state " + i, pictures[i], Check.statePicture(x));
        }
        Check.dueThrow("all is undone", x, Check.NOT_NOW, () -> x.undo());
        Check.due("the output stays", "bob:6000", Check.output(x));
        Check.due("the input stays", 1, x.play());
        Check.due("it is read", 1, x.clock());
    }

    private static void promise15And17Inspected() {
        TicketCheck x = new TicketCheck();
        x.buy(2, 1, 7);
        x.ride(2, 0, 7, 0);
        x.inspect(2);
        x.save(0);
        x.waitFor(1);
        x.undo();
        Check.dueThrow("inspected before the undone change", x, Check.NOT_NOW, () -> x.inspect(2));
        x.undo();
        Check.due("the undone inspection can be made again", 0, x.inspect(2));
        x.undo();
        x.restore(0);
        Check.dueThrow("inspected before the saving", x, Check.NOT_NOW, () -> x.inspect(2));
        TicketCheck y = withCase();
        y.pay(0);
        y.undo();
        y.undo();
        y.inspect(0);
        Check.due("a case in the place of a paid one is open", TicketCheck.OPEN, y.caseState(0));
    }

    private static void promise15NineChanges() {
        TicketCheck x = new TicketCheck();
        for (int i = 1; i <= 20; i++) {
            x.waitFor(i);
            Check.due("changes", Math.min(i, 8), x.undoableChanges());
        }
        for (int i = 7; i >= 0; i--) {
            Check.due("changes left", i, x.undo());
        }
        Check.due("twelve changes cannot be undone", 78, x.clock());
        Check.dueThrow("the older ones are discarded", x, Check.NOT_NOW, () -> x.undo());
        x.waitFor(1);
        x.waitFor(2);
        x.undo();
        x.waitFor(4);
        Check.due("an undone change does not come back", 83, x.clock());
        x.undo();
        x.undo();
        Check.due("the same start", 78, x.clock());
        Check.load(x, Check.SMALL);
        Check.play(x, "");
        x.save(0);
        x.restore(0);
        Check.due("load, play and restore are changes", 3, x.undoableChanges());
        x.undo();
        x.undo();
        x.undo();
        Check.due("and undone", 8, x.stopCount());
        Check.due("the clock, too", 78, x.clock());
    }

    private static void promise15ExceptionsAreNoChanges() {
        TicketCheck x = withCase();
        x.save(0);
        Check.due("two changes", 2, x.undoableChanges());
        Check.answer(() -> x.buy(1, 1, 15));
        Check.answer(() -> x.ride(0, 0, 1, -1));
        Check.answer(() -> x.inspect(0));
        Check.answer(() -> x.waitFor(0));
        Check.answer(() -> x.appeal(0, 0));
        Check.answer(() -> x.decide(0));
        Check.answer(() -> x.pay(1));
        Check.answer(() -> x.restore(1));
        Check.load(x, "line");
        Check.play(x, "wait");
        Check.due("still two changes", 2, x.undoableChanges());
    }

    private static void promise16Save() {
        TicketCheck x = new TicketCheck();
        x.waitFor(7);
        Check.due("save returns the clock", 7, x.save(0));
        Check.due("saving is no change", 1, x.undoableChanges());
        for (int slot : new int[] {-1, 2, MIN, MAX}) {
            Check.dueThrow("no slot to save in", x, Check.BAD, () -> x.save(slot));
        }
        x.waitFor(3);
        Check.due("the other slot", 10, x.save(1));
        x.waitFor(5);
        Check.due("slot 0", 7, x.restore(0));
        Check.due("slot 1", 10, x.restore(1));
        x.buy(0, 2, 1);
        Check.due("saving again", 10, x.save(0));
        x.undo();
        Check.due("no ticket", 0, x.ticketCount());
        x.restore(0);
        Check.due("the newer state is saved", 1, x.ticketCount());
        x.undo();
        x.undo();
        Check.due("undo leaves the slots alone", 10, x.restore(1));
        x.restore(0);
        Check.due("both of them", 1, x.ticketCount());
    }

    private static void promise17Restore() {
        TicketCheck x = withCase();
        x.buy(2, 1, 7);
        x.save(1);
        String saved = Check.statePicture(x);
        Check.dueThrow("nothing is saved there", x, Check.NOT_NOW, () -> x.restore(0));
        for (int slot : new int[] {-1, 2, MIN, MAX}) {
            Check.dueThrow("no slot", x, Check.BAD, () -> x.restore(slot));
        }
        x.waitFor(30);
        x.ride(2, 0, 3, 0);
        x.pay(0);
        String later = Check.statePicture(x);
        int changes = x.undoableChanges();
        Check.due("restore returns the clock", 0, x.restore(1));
        Check.due("the saved state", saved, Check.statePicture(x));
        Check.due("restoring is a change", changes + 1, x.undoableChanges());
        x.undo();
        Check.due("undone", later, Check.statePicture(x));
        x.restore(1);
        x.ride(2, 5, 6, 0);
        x.pay(0);
        x.restore(1);
        Check.due("the state stays saved as it was", saved, Check.statePicture(x));
        Check.load(x, Check.SMALL);
        x.writeCases();
        x.append(0x77616974, 0x20313b20, 0x20202020, 0x20202020, 0x20202020);
        Check.play(x, "wait 0;");
        x.append(0x77616974, 0x20313b20, 0x20202020, 0x20202020, 0x20202020);
        x.restore(1);
        Check.due("restored behind a load", saved, Check.statePicture(x));
        Check.due("the output stays", "", Check.output(x));
        Check.due("the code stays", 2, x.errorCode());
        Check.due("the offset stays", 5, x.errorOffset());
        Check.due("the input stays", 20, x.truncateInput(20));
    }
}

/** Promises 18 to 59: the calls that tell something about the line, passengers, tickets, cases and totals. */
final class QueryTest {
    private static final int[] NO_NUMBERS = {-1, Integer.MIN_VALUE, Integer.MAX_VALUE};

    public static void main(String[] args) {
        promise18To24Counts();
        promise25Zone();
        promise26ZonesBetween();
        promise27To31Passengers();
        promise31FaultNow();
        promise31FaultsInTheirOrder();
        promise32And33Debts();
        promise34NameByte();
        promise35CheapestKind();
        promise36To42Tickets();
        promise43IsInTime();
        promise44To49Cases();
        promise50IsOverdue();
        promise51Outlook();
        promise52To55Totals();
        promise56FaultShare();
        promise57MeanPrice();
        promise58WriteCases();
        promise59OutputByte();
        wrongNumbers();
        Check.end("QueryTest");
    }

    private static void promise18To24Counts() {
        TicketCheck x = new TicketCheck();
        Check.due("clock", 0, x.clock());
        Check.due("day", 0, x.day());
        x.waitFor(1439);
        Check.due("clock 1439", 1439, x.clock());
        Check.due("day 0 ends", 0, x.day());
        x.waitFor(1);
        Check.due("day 1 begins", 1, x.day());
        Check.play(x, "wait 9999;".repeat(9) + "wait 8568;");
        Check.due("the last minute", 99999, x.clock());
        Check.due("the last day", 69, x.day());
        Check.due("stops", 8, x.stopCount());
        Check.due("passengers", 3, x.passengerCount());
        Check.due("tickets", 0, x.ticketCount());
        x.buy(0, 2, 1);
        x.buy(1, 2, 1);
        Check.due("two tickets", 2, x.ticketCount());
        Check.due("cases", 0, x.caseCount());
        x.ride(0, 0, 1, -1);
        x.inspect(0);
        Check.due("one case", 1, x.caseCount());
        Check.due("changes", 7, x.undoableChanges());
        x.undo();
        Check.due("no case", 0, x.caseCount());
        Check.due("changes after undo", 6, x.undoableChanges());
        TicketCheck y = Check.loaded("line 3 3 3;passenger a 1;");
        Check.due("other stops", 3, y.stopCount());
        Check.due("other passengers", 1, y.passengerCount());
    }

    private static void promise25Zone() {
        TicketCheck x = Check.loaded("line 3 0 2 1;passenger a 1;");
        Check.due("zone 0", 3, x.zone(0));
        Check.due("zone 1", 0, x.zone(1));
        Check.due("zone 2", 2, x.zone(2));
        Check.due("zone 3", 1, x.zone(3));
    }

    private static void promise26ZonesBetween() {
        TicketCheck x = Check.loaded("line 3 0 2 0 1;passenger a 1;");
        Check.due("one stop", 8, x.zonesBetween(0, 0));
        Check.due("the last stop", 2, x.zonesBetween(4, 4));
        Check.due("two stops", 9, x.zonesBetween(0, 1));
        Check.due("with the stops between", 5, x.zonesBetween(1, 3));
        Check.due("backwards", 13, x.zonesBetween(3, 0));
        Check.due("the whole line", 15, x.zonesBetween(0, 4));
        Check.due("without the first zone", 7, x.zonesBetween(4, 1));
        Check.dueThrow("no first stop", x, Check.NO_SUCH, () -> x.zonesBetween(5, 0));
        Check.dueThrow("no last stop", x, Check.NO_SUCH, () -> x.zonesBetween(0, 5));
        Check.dueThrow("below 0", x, Check.NO_SUCH, () -> x.zonesBetween(-1, 0));
        Check.dueThrow("to below 0", x, Check.NO_SUCH, () -> x.zonesBetween(0, -1));
    }

    private static void promise27To31Passengers() {
        TicketCheck x = new TicketCheck();
        x.buy(2, 1, 1);
        Check.due("money", 19500, x.money(2));
        Check.due("no ride, not riding", false, x.isRiding(2));
        Check.due("no ride, no end", -1, x.rideEnd(2));
        Check.due("no ride, no ticket", -1, x.rideTicket(2));
        Check.due("no ride, no fault", 0, x.faultNow(2));
        x.waitFor(4);
        x.ride(2, 6, 4, 0);
        Check.due("riding", true, x.isRiding(2));
        Check.due("the end", 8, x.rideEnd(2));
        Check.due("the ticket", 0, x.rideTicket(2));
        Check.due("the others do not ride", false, x.isRiding(1));
        x.waitFor(3);
        Check.due("riding to the last minute", true, x.isRiding(2));
        x.waitFor(1);
        Check.due("not riding at the end", false, x.isRiding(2));
        Check.due("the end is remembered", 8, x.rideEnd(2));
        Check.due("the ticket is remembered", 0, x.rideTicket(2));
        x.ride(2, 0, 1, -1);
        Check.due("the latest ride has no ticket", -1, x.rideTicket(2));
        Check.due("the latest ride's end", 10, x.rideEnd(2));
    }

    private static void faultIs(int want, String script) {
        TicketCheck x = new TicketCheck();
        Check.due(script, true, Check.play(x, script) > 0);
        Check.due("fault now: " + script, want, x.faultNow(2));
        if (x.isRiding(2)) {
            Check.due("fault inspected: " + script, want, x.inspect(2));
            Check.due("fault after the inspection: " + script, want, x.faultNow(2));
        }
    }

    private static void promise31FaultNow() {
        faultIs(0, "buy cy single 3;ride cy 0 5 with 0;");
        faultIs(1, "buy cy single 3;ride cy 0 5;");
        faultIs(1, "ride cy 0 5;wait 100;");
        faultIs(0, "buy cy single 3;wait 77;ride cy 0 5 with 0;wait 59;");
        faultIs(2, "buy cy single 3;wait 77;ride cy 0 5 with 0;wait 60;");
        faultIs(0, "buy cy single 1;ride cy 0 1 with 0;wait 58;ride cy 1 0 with 0;wait 1;");
        faultIs(2, "buy cy single 1;ride cy 0 1 with 0;wait 58;ride cy 1 2 with 0;wait 2;");
        faultIs(2, "buy cy single 7;ride cy 0 1 with 0;wait 54;ride cy 0 7 with 0;wait 6;");
        faultIs(0, "buy cy day 1;ride cy 0 1 with 0;wait 1439;");
        faultIs(2, "buy cy day 1;ride cy 0 1 with 0;wait 1440;");
        faultIs(2, "buy cy day 1;wait 1439;ride cy 0 1 with 0;wait 1;");
        faultIs(0, "buy cy day 1;wait 1440;ride cy 0 1 with 0;wait 1;");
        faultIs(0, "buy cy short 3;ride cy 0 4 with 0;wait 29;");
        faultIs(2, "buy cy short 3;ride cy 0 4 with 0;wait 30;");
        faultIs(0, "buy cy short 3;ride cy 0 1 with 0;wait 28;ride cy 1 0 with 0;wait 1;");
        faultIs(3, "buy cy single 1;ride cy 0 3 with 0;");
        faultIs(3, "buy cy day 5;ride cy 7 0 with 0;");
        faultIs(3, "buy cy short 8;ride cy 0 1 with 0;");
        faultIs(0, "buy cy short 15;ride cy 0 1 with 0;");
        String twice = "ride cy 0 1 with 0;wait 2;ride cy 1 0 with 0;wait 2;";
        faultIs(0, "buy cy single 1;" + twice + "ride cy 0 1 with 0;");
        faultIs(4, "buy cy single 1;" + twice + "ride cy 0 1 with 0;wait 2;ride cy 1 0 with 0;");
        faultIs(0, "buy cy day 1;" + twice + twice);
        faultIs(0, "buy cy short 1;" + twice + twice);
        faultIs(5, "buy cy short 3;ride cy 0 5 with 0;");
        faultIs(0, "buy cy short 7;ride cy 7 3 with 0;");
        faultIs(5, "buy cy short 7;ride cy 7 2 with 0;");
        faultIs(5, "buy cy short 7;ride cy 1 4 with 0;wait 6;ride cy 4 6 with 0;");
        faultIs(0, "buy cy short 7;ride cy 2 4 with 0;wait 4;ride cy 4 6 with 0;");
        faultIs(0, "buy cy short 7;ride cy 3 4 with 0;wait 2;ride cy 0 7 with 0;");
        faultIs(0, "buy cy day 7;ride cy 0 7 with 0;");
        faultIs(0, "buy cy single 7;ride cy 0 7 with 0;");
        TicketCheck x = new TicketCheck();
        x.buy(2, 0, 1);
        x.ride(2, 0, 1, 0);
        x.waitFor(2);
        x.ride(2, 0, 1, -1);
        x.waitFor(2);
        x.ride(2, 7, 6, 0);
        Check.due("only the latest ride counts", 3, x.faultNow(2));
    }

    private static void promise31FaultsInTheirOrder() {
        String four = "ride cy 3 5 with 0;wait 4;ride cy 3 5 with 0;wait 4;ride cy 3 5 with 0;wait 4;ride cy 3 5 with 0;";
        faultIs(2, "buy cy single 1;" + four + "wait 48;");
        faultIs(3, "buy cy single 1;" + four);
        faultIs(4, "buy cy single 2;" + four);
        faultIs(2, "buy cy short 1;ride cy 0 7 with 0;wait 30;");
        faultIs(3, "buy cy short 1;ride cy 0 7 with 0;");
        faultIs(2, "buy cy day 1;ride cy 0 7 with 0;wait 1440;");
    }

    private static void promise32And33Debts() {
        TicketCheck x = new TicketCheck();
        Check.play(x, "ride cy 0 1;inspect cy;ride bob 0 1;inspect bob;wait 2;ride cy 1 0;inspect cy;buy cy short 1;");
        Check.due("two cases", 12000, x.debt(2));
        Check.due("two unpaid", 2, x.unpaidCases(2));
        Check.due("one case", 6000, x.debt(1));
        Check.due("one unpaid", 1, x.unpaidCases(1));
        Check.due("no case", 0, x.debt(0));
        Check.due("none unpaid", 0, x.unpaidCases(0));
        x.appeal(0, 0);
        Check.due("an appealed case counts", 12000, x.debt(2));
        Check.due("an appealed case is not paid", 2, x.unpaidCases(2));
        x.decide(0);
        Check.due("a rejected case costs more", 12500, x.debt(2));
        x.pay(2);
        Check.due("a paid case does not count", 6500, x.debt(2));
        Check.due("a paid case is paid", 1, x.unpaidCases(2));
        Check.play(x, "wait 9999;wait 9999;wait 160;");
        Check.due("nothing is overdue", 6500, x.debt(2));
        x.waitFor(1);
        Check.due("overdue", 8000, x.debt(2));
        Check.due("bob's is overdue, too", 7500, x.debt(1));
    }

    private static void promise34NameByte() {
        TicketCheck x = Check.loaded("line 0 1;passenger abcxyz 1;passenger q 1;");
        for (int i = 0; i < 6; i++) {
            Check.due("byte " + i, (int) "abcxyz".charAt(i), x.nameByte(0, i));
        }
        Check.due("no byte 6", -1, x.nameByte(0, 6));
        Check.due("the other one's name", (int) 'q', x.nameByte(1, 0));
        Check.due("no second byte", -1, x.nameByte(1, 1));
        for (int no : NO_NUMBERS) {
            Check.due("no such byte", -1, x.nameByte(1, no));
            Check.dueThrow("no passenger", x, Check.NO_SUCH, () -> x.nameByte(no, 0));
        }
        Check.dueThrow("no passenger 2", x, Check.NO_SUCH, () -> x.nameByte(2, 0));
    }

    private static void promise35CheapestKind() {
        TicketCheck x = new TicketCheck();
        Check.due("one zone", TicketCheck.SHORT, x.cheapestKind(0, 1));
        Check.due("four stops", TicketCheck.SHORT, x.cheapestKind(2, 6));
        Check.due("four stops back", TicketCheck.SHORT, x.cheapestKind(6, 2));
        Check.due("five stops", TicketCheck.SINGLE, x.cheapestKind(2, 7));
        Check.due("five stops back", TicketCheck.SINGLE, x.cheapestKind(7, 2));
        Check.due("the same stop", TicketCheck.SHORT, x.cheapestKind(7, 7));
        TicketCheck y = Check.loaded("line 0 0 0 0 0 0 0 0 0 0 0 0;passenger a 1;");
        Check.due("far in one zone", TicketCheck.SINGLE, y.cheapestKind(0, 11));
        Check.dueThrow("no first stop", x, Check.NO_SUCH, () -> x.cheapestKind(8, 0));
        Check.dueThrow("no last stop", x, Check.NO_SUCH, () -> x.cheapestKind(0, 8));
        Check.dueThrow("first stop below 0", x, Check.NO_SUCH, () -> x.cheapestKind(-1, 0));
        Check.dueThrow("last stop below 0", x, Check.NO_SUCH, () -> x.cheapestKind(0, -1));
    }

    private static void promise36To42Tickets() {
        TicketCheck x = new TicketCheck();
        x.buy(2, 1, 13);
        x.buy(0, 2, 6);
        x.buy(1, 0, 9);
        int[][] due = {{2, 1, 13, 1500}, {0, 2, 6, 150}, {1, 0, 9, 400}};
        for (int i = 0; i < due.length; i++) {
            Check.due("holder of " + i, due[i][0], x.ticketHolder(i));
            Check.due("kind of " + i, due[i][1], x.ticketKind(i));
            Check.due("zones of " + i, due[i][2], x.ticketZones(i));
            Check.due("price of " + i, due[i][3], x.ticketPrice(i));
            Check.due("no time on " + i, -1, x.stampTime(i));
            Check.due("no stop on " + i, -1, x.stampStop(i));
            Check.due("no ride with " + i, 0, x.ticketRides(i));
        }
        x.ride(0, 0, 1, 1);
        Check.due("stamped at 0", 0, x.stampTime(1));
        Check.due("stamped at stop 0", 0, x.stampStop(1));
        x.waitFor(9);
        x.ride(1, 5, 3, 2);
        x.ride(0, 6, 7, 1);
        Check.due("stamped at 9", 9, x.stampTime(2));
        Check.due("stamped at stop 5", 5, x.stampStop(2));
        Check.due("rides of 2", 1, x.ticketRides(2));
        Check.due("the first stamp stays", 0, x.stampTime(1));
        Check.due("the first stop stays", 0, x.stampStop(1));
        Check.due("rides of 1", 2, x.ticketRides(1));
        Check.due("rides of 0", 0, x.ticketRides(0));
    }

    private static void promise43IsInTime() {
        TicketCheck x = new TicketCheck();
        x.buy(2, 0, 1);
        x.buy(1, 1, 1);
        x.buy(0, 2, 1);
        x.waitFor(1400);
        Check.due("single, not stamped", true, x.isInTime(0));
        Check.due("day, not stamped", true, x.isInTime(1));
        Check.due("short, not stamped", true, x.isInTime(2));
        x.ride(2, 0, 1, 0);
        x.ride(1, 0, 1, 1);
        x.ride(0, 0, 1, 2);
        x.waitFor(29);
        Check.due("short after 29", true, x.isInTime(2));
        x.waitFor(1);
        Check.due("short after 30", false, x.isInTime(2));
        x.waitFor(9);
        Check.due("day to midnight", true, x.isInTime(1));
        x.waitFor(1);
        Check.due("day from midnight on", false, x.isInTime(1));
        x.waitFor(19);
        Check.due("single after 59", true, x.isInTime(0));
        x.waitFor(1);
        Check.due("single after 60", false, x.isInTime(0));
    }

    private static void promise44To49Cases() {
        TicketCheck x = new TicketCheck();
        Check.play(x, "buy cy single 1;wait 3;ride bob 0 1;ride cy 3 4 with 0;inspect cy;wait 1;inspect bob;buy bob day 1;");
        int[][] due = {{2, 3, 3}, {1, 1, 4}};
        for (int i = 0; i < due.length; i++) {
            Check.due("passenger of " + i, due[i][0], x.casePassenger(i));
            Check.due("fault of " + i, due[i][1], x.caseFault(i));
            Check.due("time of " + i, due[i][2], x.caseTime(i));
            Check.due("state of " + i, TicketCheck.OPEN, x.caseState(i));
            Check.due("amount of " + i, 6000, x.amountDue(i));
            Check.due("ticket of " + i, -1, x.caseTicket(i));
        }
        x.appeal(1, 0);
        Check.due("appealed", TicketCheck.APPEALED, x.caseState(1));
        Check.due("the named ticket", 0, x.caseTicket(1));
        Check.due("the amount if appealed", 6000, x.amountDue(1));
        Check.play(x, "wait 9999;wait 9999;wait 163;");
        Check.due("overdue by then", 7500, x.amountDue(1));
        Check.due("the other one, too", 7500, x.amountDue(0));
        x.decide(1);
        Check.due("rejected", TicketCheck.REJECTED, x.caseState(1));
        Check.due("the amount if rejected and overdue", 8000, x.amountDue(1));
        Check.due("the named ticket stays", 0, x.caseTicket(1));
        x.pay(0);
        Check.due("paid", TicketCheck.PAID, x.caseState(0));
        Check.due("nothing is due", 0, x.amountDue(0));
        Check.due("the fault stays", 3, x.caseFault(0));
    }

    private static void promise50IsOverdue() {
        TicketCheck x = new TicketCheck();
        Check.play(x, "wait 5;ride ann 0 1;inspect ann;ride cy 0 1;wait 1;inspect cy;buy ann short 1;appeal 0 0;");
        Check.due("at first", false, x.isOverdue(0));
        Check.play(x, "wait 9999;wait 9999;wait 161;");
        Check.due("after 20160 minutes", false, x.isOverdue(0));
        x.waitFor(1);
        Check.due("after 20161 minutes, appealed", true, x.isOverdue(0));
        Check.due("the later case", false, x.isOverdue(1));
        x.waitFor(1);
        Check.due("the later case a minute later", true, x.isOverdue(1));
        x.decide(0);
        Check.due("rejected", true, x.isOverdue(0));
        x.pay(1);
        Check.due("paid", false, x.isOverdue(1));
    }

    private static void promise51Outlook() {
        TicketCheck x = new TicketCheck();
        Check.play(x, "buy cy day 1;buy cy day 3;buy bob day 1;buy cy single 1;ride cy 0 1 with 0;ride bob 0 1 with 2;wait 2;"
                + "ride cy 1 0 with 3;wait 2;ride cy 0 1;inspect cy;wait 2;ride cy 0 1 with 1;");
        Check.due("a good ticket", TicketCheck.REDUCED, x.outlook(0, 0));
        Check.due("stamped later", TicketCheck.REJECTED, x.outlook(0, 1));
        Check.due("another one's", TicketCheck.REJECTED, x.outlook(0, 2));
        Check.due("a single ticket", TicketCheck.REJECTED, x.outlook(0, 3));
        int changes = x.undoableChanges();
        Check.due("the outlook changes nothing", TicketCheck.OPEN, x.caseState(0));
        x.appeal(0, 1);
        Check.due("the outlook of an appealed case", TicketCheck.REDUCED, x.outlook(0, 0));
        x.decide(0);
        Check.due("the outlook of a rejected case", TicketCheck.REDUCED, x.outlook(0, 0));
        x.pay(0);
        Check.due("the outlook of a paid case", TicketCheck.REDUCED, x.outlook(0, 0));
        Check.play(x, "wait 9999;wait 9999;wait 9999;");
        Check.due("the outlook of an old case", TicketCheck.REDUCED, x.outlook(0, 0));
        Check.due("only the changes count", changes + 4, x.undoableChanges());
        Check.dueThrow("no case", x, Check.NO_SUCH, () -> x.outlook(1, 0));
        Check.dueThrow("no ticket", x, Check.NO_SUCH, () -> x.outlook(0, 4));
        for (int no : NO_NUMBERS) {
            Check.dueThrow("no such case", x, Check.NO_SUCH, () -> x.outlook(no, 0));
            Check.dueThrow("no such ticket", x, Check.NO_SUCH, () -> x.outlook(0, no));
        }
    }

    private static void promise52To55Totals() {
        TicketCheck x = new TicketCheck();
        Check.due("no sale", 0, x.ticketSales());
        x.buy(2, 1, 15);
        x.buy(2, 0, 3);
        x.buy(1, 2, 3);
        Check.due("sales", 2550, x.ticketSales());
        Check.due("no fine paid", 0, x.finesPaid());
        Check.play(x, "ride cy 0 1;inspect cy;wait 2;ride cy 0 1 with 0;inspect cy;wait 2;ride cy 0 1;inspect cy;");
        Check.due("three inspections", 3, x.inspections());
        x.pay(0);
        Check.due("a fine", 6000, x.finesPaid());
        Check.play(x, "wait 9999;wait 9999;wait 9999;");
        x.pay(1);
        Check.due("two fines", 13500, x.finesPaid());
        Check.due("the sales stay", 2550, x.ticketSales());
        Check.due("the sums agree", 0, x.inconsistencies());
        Check.play(x, "ride bob 0 1 with 2;");
        Check.due("the stamps agree", 0, x.inconsistencies());
        Check.load(x, Check.SMALL);
        Check.due("no sale since the load", 0, x.ticketSales());
        Check.due("no fine since the load", 0, x.finesPaid());
        Check.due("no inspection since the load", 0, x.inspections());
        Check.due("the sums agree since the load", 0, x.inconsistencies());
        x.undo();
        Check.due("the sales are back", 2550, x.ticketSales());
        Check.due("the fines are back", 13500, x.finesPaid());
        Check.due("the inspections are back", 3, x.inspections());
        Check.due("the sums agree again", 0, x.inconsistencies());
    }

    private static void promise56FaultShare() {
        TicketCheck x = new TicketCheck();
        Check.due("no inspection", 0.0, x.faultShare());
        Check.play(x, "buy ann day 1;ride ann 0 1 with 0;inspect ann;");
        Check.due("no fault", 0.0, x.faultShare());
        Check.play(x, "ride bob 0 1;inspect bob;ride cy 0 1;");
        Check.due("one of two", 0.5, x.faultShare());
        x.inspect(2);
        Check.due("two of three", 2.0 / 3.0, x.faultShare());
        Check.load(x, "line 0 1;passenger a 1;ride a 0 1;inspect a;");
        Check.due("all", 1.0, x.faultShare());
    }

    private static void promise57MeanPrice() {
        TicketCheck x = new TicketCheck();
        Check.due("no ticket", 0.0f, x.meanPrice());
        x.buy(0, 2, 1);
        Check.due("one ticket", 150.0f, x.meanPrice());
        x.buy(0, 0, 1);
        Check.due("two tickets", 175.0f, x.meanPrice());
        x.buy(0, 2, 1);
        Check.due("three tickets", 500.0f / 3.0f, x.meanPrice());
    }

    private static void promise58WriteCases() {
        TicketCheck x = new TicketCheck();
        Check.due("nothing to write", 0, x.writeCases());
        Check.due("an empty output", "", Check.output(x));
        Check.play(x, "ride cy 0 1;inspect cy;");
        Check.due("the output waits for its call", "", Check.output(x));
        Check.due("one case", 7, x.writeCases());
        Check.due("its text", "cy:6000", Check.output(x));
        Check.play(x, "wait 2;ride ann 0 1;inspect ann;ride cy 0 1;inspect cy;buy ann day 1;appeal 1 0;");
        Check.due("three cases", 24, x.writeCases());
        Check.due("their texts", "cy:6000 ann:6000 cy:6000", Check.output(x));
        x.decide(1);
        Check.play(x, "wait 9999;wait 9999;wait 161;");
        x.writeCases();
        Check.due("one is overdue", "cy:7500! ann:6500 cy:6000", Check.output(x));
        x.pay(0);
        Check.due("without the paid one", 16, x.writeCases());
        Check.due("no space before the first", "ann:6500 cy:6000", Check.output(x));
        x.waitFor(2);
        x.writeCases();
        Check.due("all overdue", "ann:8000! cy:7500!", Check.output(x));
        x.pay(2);
        x.writeCases();
        Check.due("no space behind the last", "ann:8000!", Check.output(x));
        Check.due("writing is no change", 7, x.undoableChanges());
        TicketCheck y = Check.loaded("line 0 1;passenger abcdef 9000;" + "ride abcdef 0 1;inspect abcdef;wait 2;".repeat(10));
        Check.play(y, "ride abcdef 0 1;inspect abcdef;wait 2;".repeat(10) + "buy abcdef day 1;");
        Check.play(y, reject(0, 7));
        Check.play(y, reject(7, 14));
        Check.play(y, reject(14, 20) + "wait 9999;wait 9999;wait 9999;");
        Check.due("the longest output", 259, y.writeCases());
        Check.due("its text", ("abcdef:8000! ".repeat(20)).trim(), Check.output(y));
    }

    private static String reject(int from, int to) {
        StringBuilder script = new StringBuilder();
        for (int i = from; i < to; i++) {
            script.append("appeal ").append(i).append(" 0;decide ").append(i).append(';');
        }
        return script.toString();
    }

    private static void promise59OutputByte() {
        TicketCheck x = new TicketCheck();
        Check.play(x, "ride cy 0 1;inspect cy;");
        x.writeCases();
        String text = "cy:6000";
        for (int i = 0; i < text.length(); i++) {
            Check.due("byte " + i, (int) text.charAt(i), x.outputByte(i));
        }
        Check.due("behind the end", -1, x.outputByte(text.length()));
        for (int no : NO_NUMBERS) {
            Check.due("no such byte", -1, x.outputByte(no));
        }
        x.pay(0);
        x.writeCases();
        Check.due("an empty output", -1, x.outputByte(0));
    }

    private static void wrongNumbers() {
        TicketCheck x = new TicketCheck();
        Check.play(x, "buy cy day 1;buy cy day 1;ride cy 3 4 with 0;inspect cy;");
        Check.dueNumbers("zone", x, 8, x::zone);
        Check.dueNumbers("money", x, 3, x::money);
        Check.dueNumbers("isRiding", x, 3, x::isRiding);
        Check.dueNumbers("rideEnd", x, 3, x::rideEnd);
        Check.dueNumbers("rideTicket", x, 3, x::rideTicket);
        Check.dueNumbers("faultNow", x, 3, x::faultNow);
        Check.dueNumbers("debt", x, 3, x::debt);
        Check.dueNumbers("unpaidCases", x, 3, x::unpaidCases);
        Check.dueNumbers("ticketHolder", x, 2, x::ticketHolder);
        Check.dueNumbers("ticketKind", x, 2, x::ticketKind);
        Check.dueNumbers("ticketZones", x, 2, x::ticketZones);
        Check.dueNumbers("ticketPrice", x, 2, x::ticketPrice);
        Check.dueNumbers("stampTime", x, 2, x::stampTime);
        Check.dueNumbers("stampStop", x, 2, x::stampStop);
        Check.dueNumbers("ticketRides", x, 2, x::ticketRides);
        Check.dueNumbers("isInTime", x, 2, x::isInTime);
        Check.dueNumbers("casePassenger", x, 1, x::casePassenger);
        Check.dueNumbers("caseFault", x, 1, x::caseFault);
        Check.dueNumbers("caseState", x, 1, x::caseState);
        Check.dueNumbers("caseTime", x, 1, x::caseTime);
        Check.dueNumbers("amountDue", x, 1, x::amountDue);
        Check.dueNumbers("caseTicket", x, 1, x::caseTicket);
        Check.dueNumbers("isOverdue", x, 1, x::isOverdue);
    }
}

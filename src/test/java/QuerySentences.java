/** The sentences of promises 18 to 59, in their order, each with a test of its own. */
final class QuerySentences {
    private static final int NONE = TicketCheck.NONE;
    private static final String NO_STOP = "Throws `IndexOutOfBoundsException` if the stop does not exist";
    private static final String NO_PASSENGER = "Throws `IndexOutOfBoundsException` if the passenger does not exist";
    private static final String NO_TICKET = "Throws `IndexOutOfBoundsException` if the ticket does not exist";
    private static final String NO_CASE = "Throws `IndexOutOfBoundsException` if the case does not exist";

    private QuerySentences() {
    }

    static void run() {
        clockAndDay();
        counts();
        zone();
        zonesBetween();
        money();
        isRiding();
        rideEnd();
        rideTicket();
        faultNow();
        debt();
        unpaidCases();
        nameByte();
        cheapestKind();
        partsOfTickets();
        stamps();
        ticketRides();
        isInTime();
        partsOfCases();
        caseState();
        caseTime();
        amountDue();
        caseTicket();
        isOverdue();
        outlook();
        ticketSales();
        finesPaid();
        inspections();
        inconsistencies();
        faultShare();
        meanPrice();
        writeCases();
        outputByte();
    }

    private static void missing(String sentence, TicketCheck x, int count, Check.Numbered call) {
        Document.sentence(sentence);
        Check.dueNumbers("the answer", x, count, call);
    }

    // ---- the line

    private static void clockAndDay() {
        Document.section("Promise 18");
        Document.sentence("Returns the clock.");
        Check.due("at first", 0, new TicketCheck().clock());
        Check.due("a minute later", 1, Check.played("wait 1;").clock());
        Check.due("at last", 99999, Check.played(Check.TO_THE_END).clock());
        Document.section("Promise 19");
        Document.sentence("Returns the day.");
        Check.due("at first", 0, new TicketCheck().day());
        Check.due("in the last minute of day 0", 0, Check.played("wait 1439;").day());
        Check.due("in the first minute of day 1", 1, Check.played("wait 1440;").day());
        Check.due("at last", 69, Check.played(Check.TO_THE_END).day());
    }

    private static void counts() {
        Document.section("Promise 20");
        Document.sentence("Returns the number of stops.");
        Check.due("at first", 8, new TicketCheck().stopCount());
        Check.due("the fewest", 2, Check.loaded("line 0 1;passenger a 1;").stopCount());
        Check.due("the most", 12, Check.loaded("line 0 1 0 1 0 1 0 1 0 1 0 1;passenger a 1;").stopCount());
        Document.section("Promise 21");
        Document.sentence("Returns the number of passengers.");
        Check.due("at first", 3, new TicketCheck().passengerCount());
        Check.due("the fewest", 1, Check.loaded("line 0 1;passenger a 1;").passengerCount());
        Check.due("the most", 8, Check.loaded("line 0 1;passenger a 1;passenger b 1;passenger c 1;passenger d 1;"
                + "passenger e 1;passenger f 1;passenger g 1;passenger h 1;").passengerCount());
        Document.section("Promise 22");
        Document.sentence("Returns the number of tickets.");
        Check.due("at first", 0, new TicketCheck().ticketCount());
        TicketCheck x = Check.played("buy cy short 1;".repeat(30));
        Check.due("the most", 30, x.ticketCount());
        x.undo();
        Check.due("undone", 0, x.ticketCount());
        Document.section("Promise 23");
        Document.sentence("Returns the number of cases.");
        Check.due("at first", 0, new TicketCheck().caseCount());
        TicketCheck y = Check.played("ride cy 0 1;inspect cy;wait 2;".repeat(20));
        Check.due("the most", 20, y.caseCount());
        y.pay(0);
        Check.due("with a paid one", 20, y.caseCount());
        y.undo();
        y.undo();
        Check.due("undone", 0, y.caseCount());
        Document.section("Promise 24");
        Document.sentence("Returns the number of changes that can be undone.");
        TicketCheck z = new TicketCheck();
        for (int i = 0; i < 10; i++) {
            Check.due("changes", Math.min(i, 8), z.undoableChanges());
            z.waitFor(1);
        }
        z.undo();
        Check.due("behind an undo", 7, z.undoableChanges());
    }

    private static void zone() {
        Document.section("Promise 25");
        Document.sentence("Returns the zone of a stop.", "Returns the zone.");
        TicketCheck x = Check.loaded("line 3 0 2 1;passenger a 1;");
        int[] zones = {3, 0, 2, 1};
        for (int stop = 0; stop < zones.length; stop++) {
            Check.due("stop " + stop, zones[stop], x.zone(stop));
        }
        missing(NO_STOP, x, 4, x::zone);
    }

    private static void zonesBetween() {
        Document.section("Promise 26");
        Document.sentence("Returns the zones of a ride.", "Returns the bit mask of the zones.");
        TicketCheck x = Check.loaded("line 3 0 2 1;passenger a 1;");
        Check.due("the whole line", 15, x.zonesBetween(0, 3));
        Check.due("back", 15, x.zonesBetween(3, 0));
        Check.due("the first two", 9, x.zonesBetween(0, 1));
        Check.due("the middle", 5, x.zonesBetween(2, 1));
        Check.due("the last two", 6, x.zonesBetween(2, 3));
        Check.due("one stop", 8, x.zonesBetween(0, 0));
        missing(NO_STOP, x, 4, stop -> x.zonesBetween(stop, 0));
        Check.dueNumbers("the answer to a last stop", x, 4, stop -> x.zonesBetween(0, stop));
    }

    // ---- passengers

    private static void money() {
        Document.section("Promise 27");
        Document.sentence("Returns the money of a passenger.", "Returns the cents.");
        TicketCheck x = Check.loaded("line 0 1;passenger a 0;passenger b 99999;passenger c 200;");
        Check.due("none", 0, x.money(0));
        Check.due("the most", 99999, x.money(1));
        x.buy(2, TicketCheck.SINGLE, 1);
        Check.due("none is left", 0, x.money(2));
        missing(NO_PASSENGER, x, 3, x::money);
    }

    private static void isRiding() {
        Document.section("Promise 28");
        Document.sentence("Tells whether a passenger is on the tram.", "Returns true if so.");
        TicketCheck x = new TicketCheck();
        Check.due("no ride", false, x.isRiding(0));
        x.ride(0, 0, 1, NONE);
        Check.due("at the beginning", true, x.isRiding(0));
        Check.due("somebody else", false, x.isRiding(1));
        x.waitFor(1);
        Check.due("a minute before the end", true, x.isRiding(0));
        x.waitFor(1);
        Check.due("at the end", false, x.isRiding(0));
        missing(NO_PASSENGER, x, 3, x::isRiding);
    }

    private static void rideEnd() {
        Document.section("Promise 29");
        Document.sentence("Returns the time at which the latest ride of a passenger ends or ended.");
        TicketCheck x = Check.played("wait 5;ride ann 0 3;");
        Check.due("it ends", 11, x.rideEnd(0));
        x.waitFor(6);
        Check.due("it has ended", 11, x.rideEnd(0));
        x.ride(0, 3, 2, NONE);
        Check.due("the latest one", 13, x.rideEnd(0));
        Document.sentence("Returns the time; NONE if there was no ride.");
        Check.due("no ride", NONE, x.rideEnd(1));
        missing(NO_PASSENGER, x, 3, x::rideEnd);
    }

    private static void rideTicket() {
        Document.section("Promise 30");
        Document.sentence("Returns the ticket of the latest ride of a passenger.");
        TicketCheck x = Check.played("buy ann day 1;buy ann day 1;ride ann 0 3 with 1;");
        Check.due("during the ride", 1, x.rideTicket(0));
        x.waitFor(6);
        Check.due("after the ride", 1, x.rideTicket(0));
        x.ride(0, 3, 2, 0);
        Check.due("the latest one", 0, x.rideTicket(0));
        Document.sentence("Returns the ticket; NONE if there was no ride, or if it has no ticket.");
        Check.due("no ride", NONE, x.rideTicket(1));
        x.waitFor(2);
        x.ride(0, 3, 2, NONE);
        Check.due("no ticket", NONE, x.rideTicket(0));
        missing(NO_PASSENGER, x, 3, x::rideTicket);
    }

    private static void faultIs(int fault, String script) {
        Check.due("the fault behind " + script, fault, Check.played(script).faultNow(0));
    }

    private static void faultNow() {
        Document.section("Promise 31");
        Document.sentence("Returns the fault that an inspection of the latest ride would find at the present clock, whether the "
                + "passenger is on the tram or not.");
        faultIs(0, "buy ann single 1;ride ann 0 1 with 0;wait 59;");
        faultIs(2, "buy ann single 1;ride ann 0 1 with 0;wait 60;");
        faultIs(1, "ride ann 0 1;wait 9999;");
        faultIs(3, "buy ann day 1;ride ann 0 7 with 0;wait 1439;");
        faultIs(2, "buy ann day 1;ride ann 0 7 with 0;wait 1440;");
        faultIs(5, "buy ann short 7;ride ann 0 7 with 0;wait 29;");
        faultIs(2, "buy ann short 7;ride ann 0 7 with 0;wait 30;");
        faultIs(1, "ride ann 0 1;inspect ann;");
        faultIs(0, "buy ann day 1;ride ann 0 7;wait 14;ride ann 0 1 with 0;");
        Document.sentence("Returns the fault, 1 to 5; 0 if there is none, or if there was no ride.");
        faultIs(0, "wait 1;");
        faultIs(0, "buy ann day 7;ride ann 0 7 with 0;");
        faultIs(1, "ride ann 0 1;");
        faultIs(2, "buy ann short 7;ride ann 0 1 with 0;wait 30;");
        faultIs(3, "buy ann day 1;ride ann 0 3 with 0;");
        faultIs(4, "buy ann single 1;" + "ride ann 0 1 with 0;wait 2;".repeat(4));
        faultIs(5, "buy ann short 7;ride ann 0 5 with 0;");
        TicketCheck x = new TicketCheck();
        missing(NO_PASSENGER, x, 3, x::faultNow);
    }

    /** Cases 0 and 1 of cy and case 2 of bob, of minutes 0, 2 and 2; ticket 0 of cy is worth nothing. */
    private static TicketCheck withCases() {
        return Check.played("ride cy 0 1;inspect cy;wait 2;ride cy 0 1;ride bob 0 1;inspect cy;inspect bob;buy cy day 1;");
    }

    private static void debt() {
        Document.section("Promise 32");
        Document.sentence("Returns what all cases of a passenger that are not paid would cost now.", "Returns the cents.");
        TicketCheck x = withCases();
        Check.due("no case", 0, x.debt(0));
        Check.due("one case", 6000, x.debt(1));
        Check.due("two cases", 12000, x.debt(2));
        Check.more(x, "appeal 0 0;");
        Check.due("an appealed case counts", 12000, x.debt(2));
        Check.more(x, "decide 0;");
        Check.due("a rejected case", 12500, x.debt(2));
        Check.more(x, "wait 9999;wait 9999;wait 160;");
        Check.due("nothing is overdue", 12500, x.debt(2));
        x.waitFor(1);
        Check.due("case 0 is overdue", 14000, x.debt(2));
        x.waitFor(2);
        Check.due("case 1 is overdue, too", 15500, x.debt(2));
        x.pay(0);
        Check.due("one is paid", 7500, x.debt(2));
        x.pay(1);
        Check.due("all are paid", 0, x.debt(2));
        TicketCheck y = Check.played("buy cy day 1;ride cy 0 1 with 0;wait 2;ride cy 0 1;inspect cy;appeal 0 0;decide 0;");
        Check.due("a reduced case", 700, y.debt(2));
        missing(NO_PASSENGER, x, 3, x::debt);
    }

    private static void unpaidCases() {
        Document.section("Promise 33");
        Document.sentence("Counts the cases of a passenger that are not paid.", "Returns the number of cases.");
        TicketCheck x = withCases();
        Check.due("none", 0, x.unpaidCases(0));
        Check.due("one", 1, x.unpaidCases(1));
        Check.due("two", 2, x.unpaidCases(2));
        Check.more(x, "appeal 0 0;");
        Check.due("an appealed case counts", 2, x.unpaidCases(2));
        Check.more(x, "decide 0;");
        Check.due("a rejected case counts", 2, x.unpaidCases(2));
        x.pay(0);
        Check.due("a paid case does not count", 1, x.unpaidCases(2));
        Check.due("twenty", 20, Check.played("ride cy 0 1;inspect cy;wait 2;".repeat(20)).unpaidCases(2));
        missing(NO_PASSENGER, x, 3, x::unpaidCases);
    }

    private static void nameByte() {
        Document.section("Promise 34");
        Document.sentence("Returns a byte of the name of a passenger.", "index of the byte, from 0");
        TicketCheck x = Check.loaded("line 0 1;passenger abcxyz 1;passenger q 1;");
        Check.due("the first byte", (int) 'a', x.nameByte(0, 0));
        Check.due("the last byte", (int) 'z', x.nameByte(0, 5));
        Check.due("the only byte", (int) 'q', x.nameByte(1, 0));
        Document.sentence("Returns the byte; NONE if there is no such byte.");
        Check.due("behind six bytes", NONE, x.nameByte(0, 6));
        Check.due("behind one byte", NONE, x.nameByte(1, 1));
        Check.due("below 0", NONE, x.nameByte(0, -1));
        Check.due("far below", NONE, x.nameByte(0, Integer.MIN_VALUE));
        Check.due("far behind", NONE, x.nameByte(0, Integer.MAX_VALUE));
        missing(NO_PASSENGER, x, 2, passenger -> x.nameByte(passenger, 0));
        Check.dueThrow("no passenger and no byte", x, Check.NO_SUCH, () -> x.nameByte(2, -1));
    }

    private static void cheapestKind() {
        Document.section("Promise 35");
        Document.sentence("Finds the cheapest kind of ticket that would cover a ride at the present clock, if it was bought and "
                + "stamped now with just the zones of the ride.");
        TicketCheck x = Check.loaded("line 0 0 0 0 0 0 1 2 3 3 3 3;passenger a 0;");
        Check.due("one zone and stop", TicketCheck.SHORT, x.cheapestKind(0, 1));
        Check.due("four zones", TicketCheck.SHORT, x.cheapestKind(5, 8));
        Check.due("far, in one zone", TicketCheck.SINGLE, x.cheapestKind(0, 5));
        Check.due("far, in four zones", TicketCheck.SINGLE, x.cheapestKind(11, 0));
        Check.due("one stop is the first and the last one", TicketCheck.SHORT, x.cheapestKind(6, 6));
        Document.sentence("Short is left out if the last stop is more than 4 stops away; how long the ride takes does not "
                + "matter.");
        Check.due("4 stops", TicketCheck.SHORT, x.cheapestKind(2, 6));
        Check.due("4 stops back", TicketCheck.SHORT, x.cheapestKind(6, 2));
        Check.due("5 stops", TicketCheck.SINGLE, x.cheapestKind(2, 7));
        Check.due("5 stops back", TicketCheck.SINGLE, x.cheapestKind(7, 2));
        TicketCheck late = Check.played("wait 1439;");
        Check.due("over midnight", TicketCheck.SHORT, late.cheapestKind(0, 4));
        Check.due("in the last minute", TicketCheck.SHORT, Check.played(Check.TO_THE_END).cheapestKind(0, 4));
        Document.sentence("Returns SINGLE, DAY or SHORT; a tie goes to the lower number.");
        for (int from = 0; from < 12; from++) {
            for (int to = 0; to < 12; to++) {
                int want = Math.abs(to - from) > 4 ? TicketCheck.SINGLE : TicketCheck.SHORT;
                Check.due("from " + from + " to " + to, want, x.cheapestKind(from, to));
            }
        }
        missing(NO_STOP, x, 12, stop -> x.cheapestKind(stop, 0));
        Check.dueNumbers("the answer to a last stop", x, 12, stop -> x.cheapestKind(0, stop));
    }

    // ---- tickets

    private static void partsOfTickets() {
        TicketCheck x = Check.played("buy cy single 1;buy ann day 14;buy bob short 15;");
        Document.section("Promise 36");
        Document.sentence("Returns the holder of a ticket.", "Returns the passenger.");
        Check.due("of the first", 2, x.ticketHolder(0));
        Check.due("of the second", 0, x.ticketHolder(1));
        Check.due("of the last", 1, x.ticketHolder(2));
        missing(NO_TICKET, x, 3, x::ticketHolder);
        Document.section("Promise 37");
        Document.sentence("Returns the kind of a ticket.", "Returns SINGLE, DAY or SHORT.");
        Check.due("of the first", TicketCheck.SINGLE, x.ticketKind(0));
        Check.due("of the second", TicketCheck.DAY, x.ticketKind(1));
        Check.due("of the last", TicketCheck.SHORT, x.ticketKind(2));
        missing(NO_TICKET, x, 3, x::ticketKind);
        Document.section("Promise 38");
        Document.sentence("Returns the zones of a ticket.", "Returns the bit mask.");
        Check.due("of the first", 1, x.ticketZones(0));
        Check.due("of the second", 14, x.ticketZones(1));
        Check.due("of the last", 15, x.ticketZones(2));
        missing(NO_TICKET, x, 3, x::ticketZones);
        Document.section("Promise 39");
        Document.sentence("Returns the price of a ticket.", "Returns the cents.");
        Check.due("of the first", 200, x.ticketPrice(0));
        Check.due("of the second", 1500, x.ticketPrice(1));
        Check.due("of the last", 150, x.ticketPrice(2));
        missing(NO_TICKET, x, 3, x::ticketPrice);
    }

    private static void stamps() {
        TicketCheck x = Check.played("buy cy day 7;buy cy day 7;buy cy day 7;ride cy 0 1 with 0;wait 9;ride cy 7 6 with 1;");
        Document.section("Promise 40");
        Document.sentence("Returns the time that is stamped on a ticket.");
        Check.due("minute 0", 0, x.stampTime(0));
        Check.due("minute 9", 9, x.stampTime(1));
        Document.sentence("Returns the time; NONE if it is not stamped.");
        Check.due("not stamped", NONE, x.stampTime(2));
        missing(NO_TICKET, x, 3, x::stampTime);
        Document.section("Promise 41");
        Document.sentence("Returns the stop that is stamped on a ticket.");
        Check.due("stop 0", 0, x.stampStop(0));
        Check.due("stop 7", 7, x.stampStop(1));
        Document.sentence("Returns the stop; NONE if it is not stamped.");
        Check.due("not stamped", NONE, x.stampStop(2));
        missing(NO_TICKET, x, 3, x::stampStop);
    }

    private static void ticketRides() {
        Document.section("Promise 42");
        Document.sentence("Returns the number of rides for which a ticket has been used.", "Returns the number of rides.");
        TicketCheck x = Check.played("buy cy day 7;buy cy single 1;");
        Check.due("none", 0, x.ticketRides(1));
        for (int rides = 1; rides <= 5; rides++) {
            x.ride(2, 0, 1, 1);
            Check.due("at the beginning of a ride", rides, x.ticketRides(1));
            x.waitFor(2);
        }
        Check.due("the other ticket", 0, x.ticketRides(0));
        missing(NO_TICKET, x, 2, x::ticketRides);
    }

    private static void inTimeIs(boolean want, String script) {
        Check.due("in time behind " + script, want, Check.played(script).isInTime(0));
    }

    private static void isInTime() {
        Document.section("Promise 43");
        Document.sentence("Tells whether a ticket is in time at the present clock.");
        inTimeIs(true, "buy ann single 1;ride ann 0 1 with 0;wait 59;");
        inTimeIs(false, "buy ann single 1;ride ann 0 1 with 0;wait 60;");
        inTimeIs(true, "buy ann short 1;ride ann 0 1 with 0;wait 29;");
        inTimeIs(false, "buy ann short 1;ride ann 0 1 with 0;wait 30;");
        inTimeIs(true, "buy ann day 1;wait 1438;ride ann 0 1 with 0;wait 1;");
        inTimeIs(false, "buy ann day 1;wait 1438;ride ann 0 1 with 0;wait 2;");
        inTimeIs(true, "buy ann short 1;wait 1438;ride ann 0 1 with 0;wait 2;");
        Document.sentence("Returns true if it is in time; also if it is not stamped.");
        inTimeIs(true, "buy ann single 1;");
        inTimeIs(true, "buy ann single 1;wait 9999;");
        inTimeIs(true, "buy ann short 1;wait 9999;");
        inTimeIs(true, "buy ann day 1;wait 9999;");
        TicketCheck x = Check.played("buy ann single 1;");
        missing(NO_TICKET, x, 1, x::isInTime);
    }

    // ---- cases

    private static void partsOfCases() {
        TicketCheck x = Check.played("buy cy single 1;ride bob 0 1;inspect bob;wait 3;ride cy 3 4 with 0;inspect cy;");
        Document.section("Promise 44");
        Document.sentence("Returns the passenger of a case.", "Returns the passenger.");
        Check.due("of the first", 1, x.casePassenger(0));
        Check.due("of the last", 2, x.casePassenger(1));
        missing(NO_CASE, x, 2, x::casePassenger);
        Document.section("Promise 45");
        Document.sentence("Returns the fault of a case.", "Returns the fault, 1 to 5.");
        Check.due("of the first", 1, x.caseFault(0));
        Check.due("of the last", 3, x.caseFault(1));
        caseFaultIs(2, "buy ann day 7;wait 1430;ride ann 0 7 with 0;wait 10;inspect ann;wait 9;");
        caseFaultIs(4, "buy ann single 1;" + "ride ann 0 1 with 0;wait 2;".repeat(3)
                + "ride ann 0 1 with 0;inspect ann;wait 60;");
        caseFaultIs(5, "buy ann short 7;ride ann 0 5 with 0;inspect ann;pay 0;");
        missing(NO_CASE, x, 2, x::caseFault);
    }

    private static void caseFaultIs(int fault, String script) {
        Check.due("the fault behind " + script, fault, Check.played(script).caseFault(0));
    }

    private static void caseState() {
        Document.section("Promise 46");
        Document.sentence("Returns the state of a case.", "Returns OPEN, APPEALED, REDUCED, REJECTED or PAID.");
        TicketCheck x = withCases();
        Check.due("open", TicketCheck.OPEN, x.caseState(0));
        x.appeal(0, 0);
        Check.due("appealed", TicketCheck.APPEALED, x.caseState(0));
        x.decide(0);
        Check.due("rejected", TicketCheck.REJECTED, x.caseState(0));
        x.pay(0);
        Check.due("paid", TicketCheck.PAID, x.caseState(0));
        Check.due("another one", TicketCheck.OPEN, x.caseState(1));
        TicketCheck y = Check.played("buy cy day 1;ride cy 0 1 with 0;wait 2;ride cy 0 1;inspect cy;appeal 0 0;decide 0;");
        Check.due("reduced", TicketCheck.REDUCED, y.caseState(0));
        missing(NO_CASE, x, 3, x::caseState);
    }

    private static void caseTime() {
        TicketCheck x = Check.played("ride bob 0 1;inspect bob;wait 3;ride cy 3 4;inspect cy;");
        Document.section("Promise 47");
        Document.sentence("Returns the time of the inspection of a case.", "Returns the time.");
        Check.due("of the first", 0, x.caseTime(0));
        x.waitFor(5);
        Check.due("of the last", 3, x.caseTime(1));
        missing(NO_CASE, x, 2, x::caseTime);
    }

    private static void amountDue() {
        Document.section("Promise 48");
        Document.sentence("Returns what paying a case would cost now.");
        TicketCheck x = withCases();
        Check.due("open", 6000, x.amountDue(0));
        x.appeal(1, 0);
        x.decide(1);
        Check.due("rejected", 6500, x.amountDue(1));
        Check.due("paying costs the same", 6500, x.pay(1));
        TicketCheck y = Check.played("buy cy day 1;ride cy 0 1 with 0;wait 2;ride cy 0 1;inspect cy;appeal 0 0;decide 0;");
        Check.due("reduced", 700, y.amountDue(0));
        Document.sentence("Returns the cents; 0 if it is paid; the amount also if it is appealed, and 1500 more whenever it is "
                + "overdue.");
        Check.due("paid", 0, x.amountDue(1));
        x.appeal(0, 0);
        Check.due("appealed", 6000, x.amountDue(0));
        Check.more(x, "wait 9999;wait 9999;wait 160;");
        Check.due("appealed in the last minute", 6000, x.amountDue(0));
        x.waitFor(1);
        Check.due("appealed and overdue", 7500, x.amountDue(0));
        Check.due("open, two minutes younger", 6000, x.amountDue(2));
        x.waitFor(2);
        Check.due("open and overdue", 7500, x.amountDue(2));
        x.decide(0);
        Check.due("rejected and overdue", 8000, x.amountDue(0));
        Check.due("paid, and not overdue", 0, x.amountDue(1));
        Check.more(y, Check.FOURTEEN_DAYS);
        Check.due("reduced in the last minute", 700, y.amountDue(0));
        y.waitFor(1);
        Check.due("reduced and overdue", 2200, y.amountDue(0));
        missing(NO_CASE, x, 3, x::amountDue);
    }

    private static void caseTicket() {
        Document.section("Promise 49");
        Document.sentence("Returns the ticket that the appeal against a case names.");
        TicketCheck x = withCases();
        Check.more(x, "buy ann short 1;");
        x.appeal(1, 1);
        Check.due("appealed", 1, x.caseTicket(1));
        x.decide(1);
        Check.due("decided", 1, x.caseTicket(1));
        x.pay(1);
        Check.due("paid", 1, x.caseTicket(1));
        x.appeal(2, 0);
        Check.due("ticket 0", 0, x.caseTicket(2));
        Document.sentence("Returns the ticket; NONE if there was no appeal.");
        Check.due("open", NONE, x.caseTicket(0));
        x.pay(0);
        Check.due("paid without an appeal", NONE, x.caseTicket(0));
        missing(NO_CASE, x, 3, x::caseTicket);
    }

    private static void isOverdue() {
        Document.section("Promise 50");
        Document.sentence("Tells whether a case is overdue.", "Returns true if it is overdue.");
        TicketCheck x = withCases();
        x.appeal(1, 0);
        Check.due("at first", false, x.isOverdue(0));
        Check.more(x, "wait 9999;wait 9999;wait 160;");
        Check.due("in the last minute", false, x.isOverdue(0));
        x.waitFor(1);
        Check.due("a minute later", true, x.isOverdue(0));
        Check.due("not yet", false, x.isOverdue(2));
        x.waitFor(1);
        Check.due("in its last minute", false, x.isOverdue(2));
        x.waitFor(1);
        Check.due("open", true, x.isOverdue(2));
        Check.due("appealed", true, x.isOverdue(1));
        x.decide(1);
        Check.due("rejected", true, x.isOverdue(1));
        x.pay(1);
        Check.due("paid", false, x.isOverdue(1));
        missing(NO_CASE, x, 3, x::isOverdue);
    }

    private static void outlookIs(int want, String script) {
        Check.due("the outlook behind " + script, want, Check.played(script).outlook(0, 0));
    }

    private static void outlook() {
        Document.section("Promise 51");
        Document.sentence("Returns what an appeal against a case with a certain ticket would be decided as, if it was open.",
                "Returns REDUCED or REJECTED.");
        String caught = "wait 2;ride ann 0 7;inspect ann;";
        String good = "buy ann day 7;ride ann 0 1 with 0;" + caught;
        outlookIs(2, good);
        outlookIs(2, good + "buy cy day 1;appeal 0 1;");
        outlookIs(2, good + "buy cy day 1;appeal 0 1;decide 0;");
        outlookIs(2, good + "appeal 0 0;decide 0;");
        outlookIs(2, good + "pay 0;");
        outlookIs(2, good + Check.FOURTEEN_DAYS + "wait 1;");
        outlookIs(3, "buy cy day 7;ride cy 0 1 with 0;" + caught);
        outlookIs(3, "buy ann single 7;ride ann 0 1 with 0;" + caught);
        outlookIs(3, "buy ann short 7;ride ann 0 1 with 0;" + caught);
        outlookIs(3, "buy ann day 7;" + caught);
        outlookIs(3, "buy ann day 7;" + caught + "wait 14;ride ann 0 1 with 0;");
        outlookIs(3, "buy ann day 7;wait 1438;ride ann 0 1 with 0;" + caught);
        outlookIs(3, "buy ann day 3;ride ann 0 1 with 0;" + caught);
        TicketCheck x = Check.played(good);
        x.outlook(0, 0);
        Check.due("it changes nothing", TicketCheck.OPEN, x.caseState(0));
        missing("Throws `IndexOutOfBoundsException` if the case or the ticket does not exist", x, 1,
                number -> x.outlook(number, 0));
        Check.dueNumbers("the answer to a ticket", x, 1, ticket -> x.outlook(0, ticket));
    }

    // ---- totals and consistency

    private static void ticketSales() {
        Document.section("Promise 52");
        Document.sentence("Returns the sum of the prices of all tickets.");
        TicketCheck x = new TicketCheck();
        Check.due("no ticket", 0, x.ticketSales());
        Check.more(x, "buy cy day 15;buy ann single 3;buy bob short 7;");
        Check.due("three tickets", 2550, x.ticketSales());
        x.undo();
        Check.due("undone", 0, x.ticketSales());
        TicketCheck rich = Check.loaded("line 0 1;passenger a 99999;" + "buy a day15;".repeat(30));
        Check.due("the most", 60000, rich.ticketSales());
        Check.load(rich, Check.SMALL);
        Check.due("behind a load", 0, rich.ticketSales());
    }

    private static void finesPaid() {
        Document.section("Promise 53");
        Document.sentence("Returns the sum of all that was paid for cases since the latest load.");
        TicketCheck x = withCases();
        Check.due("nothing is paid", 0, x.finesPaid());
        x.pay(0);
        Check.due("one is paid", 6000, x.finesPaid());
        Check.more(x, "appeal 1 0;decide 1;" + Check.FOURTEEN_DAYS + "wait 1;");
        x.pay(1);
        Check.due("two are paid, the second one overdue", 14000, x.finesPaid());
        x.undo();
        Check.due("undone", 6000, x.finesPaid());
        Check.load(x, "line 0 1;passenger a 9000;ride a 0 1;inspect a;");
        Check.due("nothing since the load", 0, x.finesPaid());
        x.pay(0);
        Check.due("one since the load", 6000, x.finesPaid());
    }

    private static void inspections() {
        Document.section("Promise 54");
        Document.sentence("Returns the number of inspections since the latest load.");
        TicketCheck x = new TicketCheck();
        Check.due("none", 0, x.inspections());
        Check.more(x, "buy ann day 1;ride ann 0 1 with 0;inspect ann;");
        Check.due("one without a fault", 1, x.inspections());
        x.ride(1, 0, 1, NONE);
        x.inspect(1);
        Check.due("one more with a fault", 2, x.inspections());
        Check.answer(() -> x.inspect(1));
        Check.due("a refused one does not count", 2, x.inspections());
        x.undo();
        Check.due("undone", 1, x.inspections());
        Check.load(x, Check.SMALL);
        Check.due("none since the load", 0, x.inspections());
    }

    private static void inconsistencies() {
        Document.section("Promise 55");
        Document.sentence("Returns the sum of these numbers, which is always 0: the absolute value of the money of all passengers at "
                + "the latest load minus ticketSales() minus finesPaid() minus the money of all passengers now; and the number "
                + "of tickets that are stamped but have no rides, or have rides but are not stamped.", "Returns the sum.");
        TicketCheck x = new TicketCheck();
        Check.due("a new object", 0, x.inconsistencies());
        x.save(0);
        for (String command : new String[] {"buy cy day 7;", "ride cy 0 1 with 0;", "ride ann 0 7;", "inspect cy;", "inspect ann;",
            "appeal 0 0;", "decide 0;", "pay 0;", "buy ann short 1;", "wait 9999;", "ride cy 0 1;inspect cy;wait 2;",
            "wait 9999;wait 9999;", "pay 1;"}) {
            Check.more(x, command);
            Check.due("behind " + command, 0, x.inconsistencies());
        }
        x.undo();
        Check.due("behind undo", 0, x.inconsistencies());
        Check.load(x, "line 0 1;passenger a 99999;passenger b 5;buy a day 3;ride a 0 1 with 0;");
        Check.due("behind a load", 0, x.inconsistencies());
        x.restore(0);
        Check.due("behind restore", 0, x.inconsistencies());
    }

    private static void faultShare() {
        Document.section("Promise 56");
        Document.sentence("Returns the share of the inspections that found a fault.");
        TicketCheck x = Check.played("buy cy day 1;ride cy 0 1 with 0;inspect cy;");
        Check.due("none", 0.0, x.faultShare());
        Check.more(x, "ride ann 0 1;inspect ann;");
        Check.due("half of them", 0.5, x.faultShare());
        Check.due("all", 1.0, Check.played("ride ann 0 1;inspect ann;").faultShare());
        Document.sentence("Returns caseCount(), converted to double, divided by inspections(), converted to double; 0.0 if there "
                + "was no inspection.");
        Check.due("no inspection", 0.0, new TicketCheck().faultShare());
        Check.more(x, "wait 2;ride cy 0 1 with 0;inspect cy;");
        Check.due("a third", 1.0 / 3.0, x.faultShare());
        Check.more(x, "ride bob 0 1;inspect bob;wait 2;ride cy 0 1 with 0;inspect cy;wait 2;ride cy 0 1 with 0;inspect cy;"
                + "wait 2;ride cy 0 1 with 0;inspect cy;");
        Check.due("two of seven", 2.0 / 7.0, x.faultShare());
        x.pay(0);
        Check.due("a paid case counts", 2.0 / 7.0, x.faultShare());
    }

    private static void meanPrice() {
        Document.section("Promise 57");
        Document.sentence("Returns the mean price of a ticket.");
        Check.due("one ticket", 150.0f, Check.played("buy ann short 7;").meanPrice());
        Check.due("two tickets", 175.0f, Check.played("buy ann short 7;buy ann single 1;").meanPrice());
        Document.sentence("Returns ticketSales(), converted to float, divided by ticketCount(), converted to float; 0.0f if there "
                + "is no ticket.");
        Check.due("no ticket", 0.0f, new TicketCheck().meanPrice());
        Check.due("three tickets", 500.0f / 3.0f, Check.played("buy ann short 7;buy ann single 1;buy ann short 1;").meanPrice());
        Check.due("seven tickets", 1100.0f / 7.0f,
                Check.played("buy ann single 1;" + "buy ann short 1;".repeat(6)).meanPrice());
    }

    // ---- output

    private static void writtenIs(String want, TicketCheck x) {
        Check.due("the length", want.length(), x.writeCases());
        Check.due("the output", want, Check.output(x));
    }

    private static void writeCases() {
        Document.section("Promise 58");
        Document.sentence("Writes the cases that are not paid to the output and replaces the previous output: for each one, in "
                + "ascending order of the numbers, the name of the passenger, a colon (byte 58) and amountDue() in decimal, and "
                + "an exclamation mark (byte 33) if it is overdue; with a space between two cases.");
        writtenIs("", new TicketCheck());
        TicketCheck x = withCases();
        Check.due("no output before the call", "", Check.output(x));
        writtenIs("cy:6000 cy:6000 bob:6000", x);
        x.pay(1);
        writtenIs("cy:6000 bob:6000", x);
        Check.more(x, "appeal 2 0;decide 2;");
        writtenIs("cy:6000 bob:6500", x);
        Check.more(x, "wait 9999;wait 9999;wait 160;");
        writtenIs("cy:6000 bob:6500", x);
        x.waitFor(1);
        writtenIs("cy:7500! bob:6500", x);
        x.waitFor(2);
        writtenIs("cy:7500! bob:8000!", x);
        x.pay(0);
        writtenIs("bob:8000!", x);
        Check.more(x, "ride cy 0 1;inspect cy;");
        writtenIs("bob:8000! cy:6000", x);
        TicketCheck y = Check.played("buy cy day 1;ride cy 0 1 with 0;wait 2;ride cy 0 1;inspect cy;appeal 0 0;");
        writtenIs("cy:6000", y);
        y.decide(0);
        writtenIs("cy:700", y);
        y.pay(0);
        writtenIs("", y);
        Document.sentence("Returns the length of the output.");
        Check.due("no case", 0, y.writeCases());
        TicketCheck many = Check.played("ride cy 0 1;inspect cy;wait 2;".repeat(20));
        Check.due("twenty cases", 20 * 8 - 1, many.writeCases());
        Check.more(many, "wait 9999;wait 9999;wait 9999;");
        Check.due("twenty overdue cases", 20 * 9 - 1, many.writeCases());
    }

    private static void outputByte() {
        Document.section("Promise 59");
        Document.sentence("Returns a byte of the output.", "index of the byte, from 0");
        TicketCheck x = withCases();
        x.writeCases();
        Check.due("the first byte", (int) 'c', x.outputByte(0));
        Check.due("the colon", 58, x.outputByte(2));
        Check.due("the space", 32, x.outputByte(7));
        Check.due("the last byte", (int) '0', x.outputByte(23));
        Check.more(x, Check.FOURTEEN_DAYS + "wait 1;");
        Check.due("the output stays", 32, x.outputByte(7));
        x.writeCases();
        Check.due("the exclamation mark", 33, x.outputByte(7));
        Document.sentence("Returns the byte; NONE if there is no such byte.");
        Check.due("the last byte", 33, x.outputByte(26));
        Check.due("behind the last byte", NONE, x.outputByte(27));
        Check.due("below 0", NONE, x.outputByte(-1));
        Check.due("far below", NONE, x.outputByte(Integer.MIN_VALUE));
        Check.due("far behind", NONE, x.outputByte(Integer.MAX_VALUE));
        Check.due("an empty output", NONE, new TicketCheck().outputByte(0));
        Check.more(x, "pay 0;pay 1;");
        x.writeCases();
        Check.due("behind the end of a shorter output", NONE, x.outputByte(9));
    }
}

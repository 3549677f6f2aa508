/** The sentences of Terms 1 to 6, in their order, each with a test of its own. */
final class TermSentences {
    private static final int NONE = TicketCheck.NONE;
    private static final String FULL_LINE = "line 0 1 2 3 3 2 1 0 0 0 1 2";
    private static final String EIGHT_PASSENGERS = "passenger a 0;passenger b 99999;passenger c 1;passenger d 2;"
            + "passenger e 3;passenger f 4;passenger g 5;passenger h 6;";

    private TermSentences() {
    }

    static void run() {
        Document.section("Term 1");
        stopsAndZones();
        minutesOfARide();
        zonesOfARide();
        clock();
        day();
        Document.section("Term 2");
        passengers();
        thirtyTickets();
        partsOfATicket();
        stamp();
        singleTickets();
        dayTickets();
        shortTickets();
        Document.section("Term 3");
        beginningARide();
        endOfARide();
        onTheTramAlready();
        latestRide();
        firstFault();
        faults();
        newCase();
        twentyCases();
        inspectedOnce();
        Document.section("Term 4");
        states();
        overdue();
        appeals();
        reducedCases();
        rejectedCases();
        paying();
        Document.section("Term 5");
        inputBuffer();
        grammarOfSetups();
        grammarOfScripts();
        repetitions();
        tokens();
        words();
        numbers();
        spaces();
        names();
        commands();
        firstWrongToken();
        lowestCode();
        syntaxErrors();
        rangeErrors();
        otherErrors();
        Document.section("Term 6");
        changes();
        eightChanges();
        whatUndoBringsBack();
        whatUndoLeavesAlone();
        exceptions();
        constants();
    }

    // ---- Term 1

    private static void stopsAndZones() {
        Document.sentence("The tram line has 2 to 12 stops, numbered from 0 in their order, "
                + "each with a zone from 0 to 3.");
        Check.setupFails(1, "line 0^;passenger a 1;");
        TicketCheck two = Check.loaded("line 3 0;passenger a 1;");
        Check.due("two stops", 2, two.stopCount());
        Check.due("the zone of stop 0", 3, two.zone(0));
        Check.due("the zone of stop 1", 0, two.zone(1));
        Check.dueThrow("no stop 2", two, Check.NO_SUCH, () -> two.zone(2));
        TicketCheck twelve = Check.loaded(FULL_LINE + ";passenger a 1;");
        Check.due("twelve stops", 12, twelve.stopCount());
        Check.due("the zone of stop 10", 1, twelve.zone(10));
        Check.due("the zone of stop 11", 2, twelve.zone(11));
        Check.setupFails(5, FULL_LINE + " ^0;passenger a 1;");
        Check.setupFails(2, "line ^4 0;passenger a 1;");
        Check.setupFails(2, "line 0 0 ^4;passenger a 1;");
    }

    private static void minutesOfARide() {
        Document.sentence("A ride from one stop to another one takes 2 minutes for each stop from one to the next.");
        Check.due("one stop", 2, new TicketCheck().ride(0, 3, 4, NONE));
        Check.due("one stop back", 2, new TicketCheck().ride(0, 4, 3, NONE));
        Check.due("the whole line", 14, new TicketCheck().ride(0, 0, 7, NONE));
        Check.due("the longest line, back", 22, Check.loaded(FULL_LINE + ";passenger a 1;").ride(0, 11, 0, NONE));
    }

    private static void zonesOfARide() {
        Document.sentence("The zones of a ride are the zones of all stops from the first to the last one, "
                + "including both.");
        TicketCheck x = Check.loaded("line 3 0 0 2 1;passenger a 1;");
        Check.due("the first stop alone has the zone", 9, x.zonesBetween(0, 2));
        Check.due("the last stop alone has the zone", 3 + 4, x.zonesBetween(1, 4));
        Check.due("a stop between alone has the zone", 15, x.zonesBetween(4, 0));
        Check.due("no stop beside them counts", 1, x.zonesBetween(2, 1));
    }

    private static void clock() {
        Document.sentence("The clock counts minutes from 0 to 99999.");
        TicketCheck x = new TicketCheck();
        Check.due("at first", 0, x.clock());
        Check.more(x, Check.TO_THE_END);
        Check.due("at last", 99999, x.clock());
        Check.dueThrow("no minute more", x, Check.NOT_NOW, () -> x.waitFor(1));
        rideOverTheEnd();
    }

    /** The clock ends at 99999; that a ride may not end later is said nowhere. */
    private static void rideOverTheEnd() {
        TicketCheck x = Check.played(Check.TO_THE_END + "ride ann 0 1;");
        Check.due("a ride of a script that ends later", 100001, x.rideEnd(0));
        Check.due("it has begun", true, x.isRiding(0));
        Check.due("the same by a call", 100001, x.ride(1, 1, 0, NONE));
        Check.due("an inspection in the last minute", 1, x.inspect(1));
        Check.due("the time of its case", 99999, x.caseTime(0));
        Check.dueThrow("no other ride before the end", x, Check.NOT_NOW, () -> x.ride(0, 1, 2, NONE));
        Check.dueThrow("no minute more for it", x, Check.NOT_NOW, () -> x.waitFor(1));
    }

    private static void day() {
        Document.sentence("A day has 1440 minutes; the day is the clock divided by 1440, rounded down.");
        Check.due("minute 0", 0, new TicketCheck().day());
        Check.due("minute 1439", 0, Check.played("wait 1439;").day());
        Check.due("minute 1440", 1, Check.played("wait 1440;").day());
        Check.due("minute 2879", 1, Check.played("wait 2879;").day());
        Check.due("minute 2880", 2, Check.played("wait 2880;").day());
        Check.due("minute 99999", 69, Check.played(Check.TO_THE_END).day());
    }

    // ---- Term 2

    private static void passengers() {
        Document.sentence("There are 1 to 8 passengers, numbered from 0, each with a name and an amount of money "
                + "in cents from 0 to 99999.");
        Check.setupFails(1, "line 0 1;^");
        Check.due("one passenger", 1, Check.loaded("line 0 1;passenger a 0;").passengerCount());
        TicketCheck x = Check.loaded("line 0 1;" + EIGHT_PASSENGERS);
        Check.due("eight passengers", 8, x.passengerCount());
        Check.due("the name of passenger 0", "a", Check.name(x, 0));
        Check.due("the name of passenger 7", "h", Check.name(x, 7));
        Check.due("no money", 0, x.money(0));
        Check.due("the most money", 99999, x.money(1));
        Check.setupFails(5, "line 0 1;" + EIGHT_PASSENGERS + "^passenger i 0;");
        Check.setupFails(2, "line 0 1;passenger a ^100000;");
    }

    private static void thirtyTickets() {
        Document.sentence("There are at most 30 tickets since the latest load, numbered from 0 in the order in which "
                + "they were bought.");
        TicketCheck x = Check.loaded("line 0 1;passenger a 99999;");
        for (int i = 0; i < 30; i++) {
            Check.due("the number of a ticket", i, x.buy(0, TicketCheck.SHORT, i % 15 + 1));
        }
        Check.due("30 tickets", 30, x.ticketCount());
        Check.dueThrow("no 31st ticket", x, Check.NOT_NOW, () -> x.buy(0, TicketCheck.SHORT, 1));
        Check.due("the first one", 1, x.ticketZones(0));
        Check.due("the last one", 15, x.ticketZones(29));
        Check.load(x, "line 0 1;passenger a 99999;");
        Check.due("the first one since the load", 0, x.buy(0, TicketCheck.SHORT, 1));
    }

    private static void partsOfATicket() {
        Document.sentence("A ticket has a holder, a kind and a set of zones, which is a bit mask from 1 to 15 "
                + "(bit z stands for zone z).");
        TicketCheck x = Check.played("buy ann day 1;buy cy short 15;");
        Check.due("a holder", 0, x.ticketHolder(0));
        Check.due("another holder", 2, x.ticketHolder(1));
        Check.due("a kind", TicketCheck.DAY, x.ticketKind(0));
        Check.due("another kind", TicketCheck.SHORT, x.ticketKind(1));
        Check.due("the lowest mask", 1, x.ticketZones(0));
        Check.due("the highest mask", 15, x.ticketZones(1));
        Check.dueThrow("mask 0", x, Check.BAD, () -> x.buy(0, TicketCheck.DAY, 0));
        Check.dueThrow("mask 16", x, Check.BAD, () -> x.buy(0, TicketCheck.DAY, 16));
        for (int zone = 0; zone <= 3; zone++) {
            for (int bit = 0; bit <= 3; bit++) {
                TicketCheck y = Check.loaded("line " + zone + " " + zone + ";passenger a 9000;");
                y.ride(0, 0, 1, y.buy(0, TicketCheck.DAY, 1 << bit));
                Check.due("bit " + bit + " in zone " + zone, bit == zone ? 0 : 3, y.faultNow(0));
            }
        }
    }

    private static void stamp() {
        Document.sentence("A ticket is stamped when it is used for a ride for the first time: the time of the ride "
                + "and its first stop are stamped on it.");
        TicketCheck x = Check.played("buy ann day 7;wait 5;ride ann 2 3;wait 2;");
        Check.due("no time as long as it is not used", NONE, x.stampTime(0));
        Check.due("no stop as long as it is not used", NONE, x.stampStop(0));
        Check.more(x, "ride ann 6 4 with 0;");
        Check.due("the time of the ride", 7, x.stampTime(0));
        Check.due("the first stop of the ride", 6, x.stampStop(0));
        Check.more(x, "wait 4;ride ann 1 2 with 0;");
        Check.due("the time stays at the second ride", 7, x.stampTime(0));
        Check.due("the stop stays at the second ride", 6, x.stampStop(0));
        TicketCheck first = Check.played("buy ann day 7;ride ann 0 1 with 0;wait 2;ride ann 1 2 with 0;");
        Check.due("time 0 stays", 0, first.stampTime(0));
        Check.due("stop 0 stays", 0, first.stampStop(0));
    }

    private static void priceIs(int cents, int kind, int zones) {
        TicketCheck x = new TicketCheck();
        x.buy(2, kind, zones);
        Check.due("the price of the zones " + zones, cents, x.ticketPrice(0));
        Check.due("the money without the price", 20000 - cents, x.money(2));
    }

    private static void inTimeIs(boolean want, String script) {
        TicketCheck x = Check.played(script);
        Check.due("in time behind " + script, want, x.isInTime(0));
        Check.due("fault 2 behind " + script, !want, x.faultNow(0) == 2);
    }

    private static void faultIs(int want, String script) {
        Check.due("the fault behind " + script, want, Check.played(script).faultNow(0));
    }

    private static void singleTickets() {
        Document.sentence("Single (0): it costs 200 cents for each zone.");
        priceIs(200, TicketCheck.SINGLE, 1);
        priceIs(200, TicketCheck.SINGLE, 8);
        priceIs(400, TicketCheck.SINGLE, 9);
        priceIs(600, TicketCheck.SINGLE, 14);
        priceIs(800, TicketCheck.SINGLE, 15);
        Document.sentence("It is in time during the 60 minutes from the stamped time on "
                + "(also 59 minutes later, but not 60).");
        inTimeIs(true, "buy ann single 7;wait 100;ride ann 0 1 with 0;");
        inTimeIs(true, "buy ann single 7;wait 100;ride ann 0 1 with 0;wait 59;");
        inTimeIs(false, "buy ann single 7;wait 100;ride ann 0 1 with 0;wait 60;");
        inTimeIs(false, "buy ann single 7;wait 100;ride ann 0 1 with 0;wait 9999;");
        inTimeIs(true, "buy ann single 7;wait 1430;ride ann 0 1 with 0;wait 59;");
        Document.sentence("It may be used for at most 3 rides.");
        faultIs(0, "buy ann single 1;" + "wait 2;ride ann 0 1 with 0;".repeat(3));
        faultIs(4, "buy ann single 1;" + "wait 2;ride ann 0 1 with 0;".repeat(4));
    }

    private static void dayTickets() {
        Document.sentence("Day (1): it costs 500 cents for each zone.");
        priceIs(500, TicketCheck.DAY, 4);
        priceIs(1000, TicketCheck.DAY, 12);
        priceIs(1500, TicketCheck.DAY, 7);
        priceIs(2000, TicketCheck.DAY, 15);
        Document.sentence("It is in time on the day on which it was stamped.");
        inTimeIs(true, "buy ann day 7;ride ann 0 1 with 0;wait 1439;");
        inTimeIs(false, "buy ann day 7;ride ann 0 1 with 0;wait 1440;");
        inTimeIs(true, "buy ann day 7;wait 1439;ride ann 0 1 with 0;");
        inTimeIs(false, "buy ann day 7;wait 1439;ride ann 0 1 with 0;wait 1;");
        inTimeIs(true, "buy ann day 7;wait 1440;ride ann 0 1 with 0;wait 1439;");
        inTimeIs(false, "buy ann day 7;wait 1440;ride ann 0 1 with 0;wait 1440;");
    }

    private static void shortTickets() {
        Document.sentence("Short (2): it costs 150 cents, whatever its zones.");
        priceIs(150, TicketCheck.SHORT, 1);
        priceIs(150, TicketCheck.SHORT, 6);
        priceIs(150, TicketCheck.SHORT, 15);
        Document.sentence("It is in time during the 30 minutes from the stamped time on.");
        inTimeIs(true, "buy ann short 7;wait 9;ride ann 0 1 with 0;");
        inTimeIs(true, "buy ann short 7;wait 9;ride ann 0 1 with 0;wait 29;");
        inTimeIs(false, "buy ann short 7;wait 9;ride ann 0 1 with 0;wait 30;");
        Document.sentence("It covers no ride to a stop that is more than 4 stops away from the stamped stop.");
        faultIs(0, "buy ann short 7;ride ann 3 7 with 0;");
        faultIs(5, "buy ann short 7;ride ann 2 7 with 0;");
        faultIs(0, "buy ann short 7;ride ann 4 0 with 0;");
        faultIs(5, "buy ann short 7;ride ann 5 0 with 0;");
    }

    // ---- Term 3

    private static void beginningARide() {
        Document.sentence("A passenger begins a ride at the present clock, from a stop to another stop, "
                + "with a ticket or without one.");
        TicketCheck x = Check.played("buy ann day 7;wait 9;");
        Check.due("with a ticket", 13, x.ride(0, 2, 4, 0));
        Check.due("stamped at the present clock", 9, x.stampTime(0));
        Check.due("it is the ticket of the ride", 0, x.rideTicket(0));
        Check.due("without a ticket", 11, x.ride(1, 1, 0, NONE));
        Check.due("there is no ticket of the ride", NONE, x.rideTicket(1));
        Check.dueThrow("to the same stop", x, Check.BAD, () -> x.ride(2, 3, 3, NONE));
    }

    private static void endOfARide() {
        Document.sentence("The ride ends 2 minutes later for each stop; until then (not including the end) "
                + "the passenger is on the tram.");
        TicketCheck x = Check.played("wait 5;ride ann 1 4;");
        Check.due("the end", 11, x.rideEnd(0));
        Check.due("on the tram at once", true, x.isRiding(0));
        x.waitFor(5);
        Check.due("on the tram a minute before the end", true, x.isRiding(0));
        x.waitFor(1);
        Check.due("not on the tram at the end", false, x.isRiding(0));
    }

    private static void onTheTramAlready() {
        Document.sentence("A passenger who is on the tram cannot begin another ride.");
        TicketCheck x = Check.played("ride ann 0 2;");
        Check.dueThrow("at once", x, Check.NOT_NOW, () -> x.ride(0, 2, 3, NONE));
        x.waitFor(3);
        Check.dueThrow("a minute before the end", x, Check.NOT_NOW, () -> x.ride(0, 2, 3, NONE));
        x.waitFor(1);
        Check.due("at the end", 6, x.ride(0, 2, 3, NONE));
    }

    private static void latestRide() {
        Document.sentence("The latest ride of a passenger is remembered.");
        TicketCheck x = Check.played("buy ann day 1;ride ann 0 5 with 0;" + Check.TO_THE_END);
        Check.due("its end, long after", 10, x.rideEnd(0));
        Check.due("its ticket, long after", 0, x.rideTicket(0));
        x.ride(0, 7, 6, NONE);
        Check.due("the end of the next one", 100001, x.rideEnd(0));
        Check.due("the ticket of the next one", NONE, x.rideTicket(0));
    }

    private static void inspectionFinds(int want, String script) {
        Check.due("found behind " + script, want, Check.played(script).inspect(0));
    }

    private static void firstFault() {
        Document.sentence("An inspection of a passenger who is on the tram finds the first of these faults of the ride "
                + "that applies at the present clock:");
        String shortInZone0 = "buy ann short 1;ride ann 0 1 with 0;wait 20;ride ann 0 7 with 0;";
        inspectionFinds(3, shortInZone0 + "wait 9;");
        inspectionFinds(2, shortInZone0 + "wait 10;");
        String shortInAll = "buy ann short 7;ride ann 0 1 with 0;wait 20;ride ann 0 7 with 0;";
        inspectionFinds(5, shortInAll + "wait 9;");
        inspectionFinds(2, shortInAll + "wait 10;");
        String threeRides = "ride ann 0 1 with 0;wait 2;".repeat(3) + "wait 44;ride ann 0 7 with 0;";
        inspectionFinds(4, "buy ann single 7;" + threeRides + "wait 9;");
        inspectionFinds(2, "buy ann single 7;" + threeRides + "wait 10;");
        inspectionFinds(3, "buy ann single 3;" + threeRides + "wait 9;");
        inspectionFinds(2, "buy ann single 3;" + threeRides + "wait 10;");
        TicketCheck x = Check.played("ride ann 0 1;wait 2;");
        Check.dueThrow("not on the tram", x, Check.NOT_NOW, () -> x.inspect(0));
    }

    private static void faults() {
        Document.sentence("1: the ride has no ticket.");
        inspectionFinds(1, "buy ann day 7;ride ann 0 7;");
        inspectionFinds(0, "buy ann day 7;ride ann 0 7 with 0;");
        Document.sentence("2: the ticket is not in time.");
        String lateRide = "buy ann single 7;ride ann 0 1 with 0;wait 50;ride ann 7 0 with 0;";
        inspectionFinds(0, lateRide + "wait 9;");
        inspectionFinds(2, lateRide + "wait 10;");
        Document.sentence("3: the zones of the ride are not all in the zones of the ticket.");
        inspectionFinds(3, "buy ann day 3;ride ann 0 6 with 0;");
        inspectionFinds(0, "buy ann day 3;ride ann 0 5 with 0;");
        inspectionFinds(3, "buy ann day 13;ride ann 7 2 with 0;");
        inspectionFinds(3, "buy ann day 6;ride ann 7 2 with 0;");
        Document.sentence("4: the ticket is single, and it has been used for more than 3 rides.");
        String ride = "ride ann 0 1 with 0;wait 2;";
        inspectionFinds(0, "buy ann single 1;" + ride.repeat(2) + "ride ann 0 1 with 0;");
        inspectionFinds(4, "buy ann single 1;" + ride.repeat(3) + "ride ann 0 1 with 0;");
        inspectionFinds(0, "buy ann day 1;" + ride.repeat(3) + "ride ann 0 1 with 0;");
        inspectionFinds(0, "buy ann short 1;" + ride.repeat(3) + "ride ann 0 1 with 0;");
        Document.sentence("5: the ticket is short, and the ride leads to a stop that is more than 4 stops away from "
                + "the stamped stop.");
        inspectionFinds(0, "buy ann short 7;ride ann 2 3 with 0;wait 2;ride ann 3 6 with 0;");
        inspectionFinds(5, "buy ann short 7;ride ann 2 3 with 0;wait 2;ride ann 3 7 with 0;");
        inspectionFinds(5, "buy ann short 7;ride ann 7 6 with 0;wait 2;ride ann 6 2 with 0;");
        inspectionFinds(0, "buy ann short 7;ride ann 3 2 with 0;wait 2;ride ann 0 7 with 0;");
        inspectionFinds(0, "buy ann day 7;ride ann 0 7 with 0;");
        inspectionFinds(0, "buy ann single 7;ride ann 0 7 with 0;");
    }

    private static void newCase() {
        Document.sentence("If there is a fault, a case is opened for the passenger: a fine of 6000 cents, with the fault "
                + "and the time of the inspection.");
        TicketCheck x = Check.played("buy cy day 1;ride ann 0 1;inspect ann;wait 3;ride cy 2 3 with 0;wait 1;inspect cy;");
        Check.due("two cases", 2, x.caseCount());
        Check.due("the passenger of the first", 0, x.casePassenger(0));
        Check.due("the fault of the first", 1, x.caseFault(0));
        Check.due("the time of the first", 0, x.caseTime(0));
        Check.due("the fine of the first", 6000, x.amountDue(0));
        Check.due("the passenger of the second", 2, x.casePassenger(1));
        Check.due("the fault of the second", 3, x.caseFault(1));
        Check.due("the time of the second", 4, x.caseTime(1));
        Check.due("the fine of the second", 6000, x.amountDue(1));
        Check.more(x, "wait 2;buy cy day 3;ride cy 0 4 with 1;inspect cy;");
        Check.due("no case without a fault", 2, x.caseCount());
    }

    private static TicketCheck withTwentyCases() {
        TicketCheck x = Check.played("ride cy 0 1;inspect cy;wait 2;".repeat(20));
        Check.due("20 cases", 20, x.caseCount());
        return x;
    }

    private static void twentyCases() {
        Document.sentence("There are at most 20 cases since the latest load, numbered from 0.");
        TicketCheck x = withTwentyCases();
        Check.due("the first one", 0, x.caseTime(0));
        Check.due("the last one", 38, x.caseTime(19));
        Check.dueThrow("no case 20", x, Check.NO_SUCH, () -> x.caseTime(20));
        x.ride(2, 0, 1, NONE);
        Check.dueThrow("no 21st case", x, Check.NOT_NOW, () -> x.inspect(2));
        Check.load(x, "line 0 1;passenger a 1;ride a 0 1;");
        Check.due("a fault since the load", 1, x.inspect(0));
        Check.due("the first case since the load", 1, x.caseCount());
    }

    private static void inspectedOnce() {
        Document.sentence("No passenger is inspected twice in the same ride.");
        TicketCheck x = Check.played("buy ann day 7;ride ann 0 7 with 0;inspect ann;ride bob 0 7;inspect bob;");
        Check.dueThrow("inspected without a fault", x, Check.NOT_NOW, () -> x.inspect(0));
        Check.dueThrow("inspected with a fault", x, Check.NOT_NOW, () -> x.inspect(1));
        x.waitFor(13);
        Check.dueThrow("inspected 13 minutes ago", x, Check.NOT_NOW, () -> x.inspect(0));
        Check.more(x, "wait 1;ride ann 7 6 with 0;ride bob 7 6;");
        Check.due("the next ride without a fault", 0, x.inspect(0));
        Check.due("the next ride with a fault", 1, x.inspect(1));
    }

    // ---- Term 4

    /** Case 0 of ann at minute 2 would be reduced by ticket 0, but not by ticket 1. */
    private static TicketCheck withCase() {
        return Check.loaded("line 0 0 0 1 1 1 2 2;passenger ann 90000;passenger cy 0;"
                + "buy ann day 7;ride ann 0 1 with 0;buy ann single 1;wait 2;ride ann 0 7;inspect ann;");
    }

    private static TicketCheck decided(int ticket) {
        TicketCheck x = withCase();
        x.appeal(0, ticket);
        x.decide(0);
        return x;
    }

    private static void states() {
        Document.sentence("A case is open, appealed, reduced, rejected or paid.");
        TicketCheck x = withCase();
        Check.due("open", TicketCheck.OPEN, x.caseState(0));
        x.appeal(0, 0);
        Check.due("appealed", TicketCheck.APPEALED, x.caseState(0));
        Check.due("reduced", TicketCheck.REDUCED, decided(0).caseState(0));
        Check.due("rejected", TicketCheck.REJECTED, decided(1).caseState(0));
        TicketCheck y = decided(1);
        y.pay(0);
        Check.due("paid", TicketCheck.PAID, y.caseState(0));
        Document.sentence("It is open at first.");
        Check.due("just opened", TicketCheck.OPEN, withCase().caseState(0));
        Check.due("its appeal is possible", 1, withCase().appeal(0, 1));
    }

    private static void overdue() {
        Document.sentence("A case is overdue if it is not paid and the clock is greater than the time of the inspection "
                + "plus 20160 (14 days).");
        TicketCheck x = withCase();
        Check.due("at once", false, x.isOverdue(0));
        Check.more(x, Check.FOURTEEN_DAYS);
        Check.due("the clock", 20162, x.clock());
        Check.due("at 20160 minutes", false, x.isOverdue(0));
        x.waitFor(1);
        Check.due("at 20161 minutes", true, x.isOverdue(0));
        x.pay(0);
        Check.due("when it is paid", false, x.isOverdue(0));
    }

    private static void appeals() {
        Document.sentence("A passenger can appeal once, while the case is open and not overdue, and names a ticket.");
        TicketCheck x = withCase();
        Check.more(x, Check.FOURTEEN_DAYS);
        Check.due("in the last minute", 1, x.appeal(0, 1));
        Check.due("the named ticket", 1, x.caseTicket(0));
        Check.dueThrow("twice", x, Check.NOT_NOW, () -> x.appeal(0, 1));
        TicketCheck late = withCase();
        Check.more(late, Check.FOURTEEN_DAYS + "wait 1;");
        Check.dueThrow("overdue", late, Check.NOT_NOW, () -> late.appeal(0, 1));
        TicketCheck reduced = decided(0);
        Check.dueThrow("reduced", reduced, Check.NOT_NOW, () -> reduced.appeal(0, 0));
        TicketCheck rejected = decided(1);
        Check.dueThrow("rejected", rejected, Check.NOT_NOW, () -> rejected.appeal(0, 0));
        TicketCheck paid = withCase();
        paid.pay(0);
        Check.dueThrow("paid", paid, Check.NOT_NOW, () -> paid.appeal(0, 0));
        Document.sentence("The case is appealed then.");
        TicketCheck y = withCase();
        y.appeal(0, 0);
        Check.due("the state", TicketCheck.APPEALED, y.caseState(0));
    }

    /** The scripts appeal against case 0 with ticket 0. */
    private static void decisionIs(int want, String script) {
        TicketCheck x = Check.played(script + "appeal 0 0;");
        Check.due("decided behind " + script, want, x.decide(0));
        Check.due("the state behind " + script, want, x.caseState(0));
    }

    private static void reducedCases() {
        Document.sentence("When an appeal is decided, the case becomes reduced if the ticket belongs to the passenger, "
                + "is a day ticket, was stamped not later than the inspection and on the same day, and has all zones of "
                + "the inspected ride; the amount becomes 700 then.");
        String caught = "wait 2;ride ann 0 7;inspect ann;";
        decisionIs(2, "buy ann day 7;ride ann 0 1 with 0;" + caught);
        decisionIs(3, "buy cy day 7;ride cy 0 1 with 0;" + caught);
        decisionIs(3, "buy ann single 7;ride ann 0 1 with 0;" + caught);
        decisionIs(3, "buy ann short 7;ride ann 0 1 with 0;" + caught);
        decisionIs(3, "buy ann day 7;" + caught);
        decisionIs(3, "buy ann day 7;" + caught + "wait 14;ride ann 0 1 with 0;");
        decisionIs(3, "wait 1438;buy ann day 7;ride ann 0 1 with 0;" + caught);
        decisionIs(2, "wait 1440;buy ann day 7;ride ann 0 1 with 0;" + caught);
        decisionIs(2, "buy ann day 7;ride ann 0 1 with 0;wait 1438;ride ann 0 7;wait 1;inspect ann;");
        decisionIs(3, "buy ann day 7;ride ann 0 1 with 0;wait 1438;ride ann 0 7;wait 2;inspect ann;");
        decisionIs(2, "buy ann day 7;ride ann 0 1 with 0;" + caught + "wait 9999;");
        decisionIs(2, "buy ann day 3;ride ann 0 1 with 0;wait 2;ride ann 0 5;inspect ann;wait 10;ride ann 0 7;");
        decisionIs(3, "buy ann day 3;ride ann 0 1 with 0;wait 2;ride ann 0 6;inspect ann;wait 12;ride ann 0 1;");
        decisionIs(3, "buy ann day 5;ride ann 0 1 with 0;" + caught);
        decisionIs(3, "buy ann day 3;wait 2;ride ann 0 7 with 0;inspect ann;");
        Check.due("the amount", 700, decided(0).amountDue(0));
    }

    private static void rejectedCases() {
        Document.sentence("Otherwise the case becomes rejected, and 500 are added to the amount.");
        Check.due("the state", TicketCheck.REJECTED, decided(1).caseState(0));
        Check.due("the amount", 6500, decided(1).amountDue(0));
    }

    private static void payingCosts(int want, TicketCheck x) {
        int before = x.money(0);
        Check.due("paid", want, x.pay(0));
        Check.due("taken from the money", want, before - x.money(0));
    }

    private static TicketCheck behind(TicketCheck x, String script) {
        Check.more(x, script);
        return x;
    }

    private static void paying() {
        Document.sentence("Paying a case takes its amount from the money of the passenger; a case that is overdue at that "
                + "time costs 1500 more, whatever its state.");
        String overdue = Check.FOURTEEN_DAYS + "wait 1;";
        payingCosts(6000, withCase());
        payingCosts(6000, behind(withCase(), Check.FOURTEEN_DAYS));
        payingCosts(7500, behind(Check.played("ride ann 0 1;inspect ann;"), overdue));
        payingCosts(700, behind(decided(0), Check.FOURTEEN_DAYS));
        payingCosts(2200, behind(decided(0), overdue));
        String rejected = "ride ann 0 1;inspect ann;buy cy short 1;appeal 0 0;decide 0;";
        payingCosts(6500, behind(Check.played(rejected), Check.FOURTEEN_DAYS));
        payingCosts(8000, behind(Check.played(rejected), overdue));
        Document.sentence("An appealed case cannot be paid.");
        TicketCheck x = withCase();
        x.appeal(0, 0);
        Check.dueThrow("appealed", x, Check.NOT_NOW, () -> x.pay(0));
        Check.more(x, overdue);
        Check.dueThrow("appealed and overdue", x, Check.NOT_NOW, () -> x.pay(0));
    }

    // ---- Term 5

    private static void inputBuffer() {
        Document.sentence("The input buffer holds at most 700 bytes. load() parses it as a setup, "
                + "play() parses it as a script.");
        TicketCheck x = new TicketCheck();
        Check.feed(x, " ".repeat(680));
        Check.due("700 bytes", 700, x.append(0x20202020, 0x20202020, 0x20202020, 0x20207761, 0x6974313b));
        Check.due("not more", NONE, x.append(0x20202020, 0x20202020, 0x20202020, 0x20202020, 0x20202020));
        Check.due("the script is read to its end", 1, x.play());
        Check.due("its command", 1, x.clock());
        Check.setupFails(1, "^wait 1;");
        TicketCheck y = new TicketCheck();
        Check.due("a setup is no script", NONE, Check.play(y, Check.SMALL));
        Check.due("it ends at once", 0, y.errorOffset());
        Check.due("a setup", 1, Check.load(y, Check.SMALL));
    }

    private static void grammarOfSetups() {
        Document.sentence("setup = \"line\" zone zone { zone } \";\" passenger { passenger } { command \";\" }");
        Check.due("the shortest setup", 1, Check.load(new TicketCheck(), "line 0 1;passenger a 1;"));
        Check.due("a longer one", 2, Check.load(new TicketCheck(),
                "line 0 1 2 3 0;passenger a 1;passenger b 2;wait 1;wait 2;"));
        Check.setupFails(1, "^0 1;passenger a 1;");
        Check.setupFails(1, "line^;passenger a 1;");
        Check.setupFails(1, "line 0^;passenger a 1;");
        Check.setupFails(1, "line 0 1 ^passenger a 1;");
        Check.setupFails(1, "line 0 1;^");
        Check.setupFails(1, "line 0 1;^wait 1;");
        Check.setupFails(1, "line 0 1;passenger a 1;^line 0 1;");
        Check.setupFails(1, "line 0 1;passenger a 1;wait 1;^passenger b 1;");
        Check.setupFails(1, "line 0 1;passenger a 1;wait 1^");
        Document.sentence("passenger = \"passenger\" name money \";\"");
        Check.setupFails(1, "line 0 1;^a 1;");
        Check.setupFails(1, "line 0 1;passenger ^1;");
        Check.setupFails(1, "line 0 1;passenger a^;");
        Check.setupFails(1, "line 0 1;passenger a 1^");
        Check.setupFails(1, "line 0 1;passenger a 1 ^1;");
    }

    private static void grammarOfScripts() {
        Document.sentence("script = { command \";\" }");
        Check.due("no command", 0, Check.play(new TicketCheck(), ""));
        Check.due("three commands", 3, Check.play(new TicketCheck(), "wait 1;wait 2;wait 3;"));
        Check.scriptFails(1, "wait 1^");
        Check.scriptFails(1, "^;");
        Check.scriptFails(1, "wait 1;^;");
        Check.scriptFails(1, "wait 1 ^wait 1;");
        Document.sentence("command = \"buy\" passenger-name ( \"single\" | \"day\" | \"short\" ) zones | \"ride\" "
                + "passenger-name stop stop [ \"with\" ticket ] | \"inspect\" passenger-name | \"wait\" minutes | "
                + "\"appeal\" case ticket | \"decide\" case | \"pay\" case");
        Check.due("each command in each of its forms", 11, Check.play(new TicketCheck(),
                "buy ann single 1;buy ann day 2;buy ann short 3;ride ann 0 1 with 0;ride bob 1 0;inspect bob;wait 1;"
                + "appeal 0 2;decide 0;ride cy 0 1;wait 1;"));
        Check.due("a case can be paid", 3, Check.play(new TicketCheck(), "ride ann 0 1;inspect ann;pay 0;"));
        Check.scriptFails(3, "buy ^day 1;");
        for (String wrong : new String[] {"buy ann ^1;", "buy ann day^;", "buy ann day 1 ^day;",
            "ride ^0 1;", "ride ann^;", "ride ann 0^;", "ride ann 0 1 ^2;", "ride ann 0 1 with^;", "ride ann 0 1 ^day 0;",
            "inspect^;", "inspect ann ^0;", "wait^;", "wait 1 ^1;", "appeal^;", "decide^;", "pay^;", "^ann;", "^single;"}) {
            Check.scriptFails(1, wrong);
        }
        String appealed = "ride ann 0 1;inspect ann;buy ann day 1;";
        for (String wrong : new String[] {"appeal 0^;", "appeal 0 0 ^0;", "decide 0 ^0;", "pay 0 ^0;"}) {
            Check.scriptFails(1, appealed + wrong);
        }
    }

    private static void repetitions() {
        Document.sentence("Braces mean any number of repetitions, brackets mean that a part is optional, "
                + "a vertical bar separates alternatives.");
        Check.due("no repetition", 1, Check.load(new TicketCheck(), "line 0 1;passenger a 1;"));
        String all = FULL_LINE + ";" + EIGHT_PASSENGERS;
        Check.due("many of each", 8, Check.load(new TicketCheck(), all + "wait1;".repeat((700 - all.length()) / 6)));
        Check.due("as many commands as there is room for", 116, Check.play(new TicketCheck(), "wait1;".repeat(116)));
        TicketCheck x = Check.played("buy ann day 1;ride ann 0 1;ride bob 0 1;");
        Check.due("without the part", NONE, x.rideTicket(0));
        Check.due("with the part", 0, Check.played("buy ann day 1;ride ann 0 1 with 0;").rideTicket(0));
        Check.due("one alternative", TicketCheck.SINGLE, Check.played("buy ann single 1;").ticketKind(0));
        Check.due("another one", TicketCheck.DAY, Check.played("buy ann day 1;").ticketKind(0));
        Check.due("the last one", TicketCheck.SHORT, Check.played("buy ann short 1;").ticketKind(0));
        Check.scriptFails(1, "buy ann ^with 1;");
    }

    private static void tokens() {
        Document.sentence("A token is a word, a number or a semicolon.");
        Check.due("a word, a number and a semicolon", 1, Check.play(new TicketCheck(), "wait5;"));
        for (char other = 0; other < 256; other++) {
            if (" ;abcdefghijklmnopqrstuvwxyz0123456789".indexOf(other) < 0) {
                wrongByte("", other);
                wrongByte("inspect ", other);
                wrongByte("wait ", other);
                wrongByte("wait 5", other);
                wrongByte("wait 5;", other);
            }
        }
    }

    private static void wrongByte(String front, char other) {
        TicketCheck x = new TicketCheck();
        Check.due("byte " + (int) other, NONE, Check.play(x, front + other + ";"));
        Check.due("its code", 1, x.errorCode());
        Check.due("its offset", front.length(), x.errorOffset());
    }

    private static void words() {
        Document.sentence("A word is a maximal run of the letters a to z.");
        for (int b = 0; b < 256; b++) {
            TicketCheck x = new TicketCheck();
            Check.due("there is no such name", NONE, Check.play(x, "inspect " + (char) b + ";"));
            Check.due("byte " + b + " as a word", b >= 'a' && b <= 'z' ? 3 : 1, x.errorCode());
        }
        Check.due("the first and the last letter", "az", Check.name(Check.loaded("line 0 1;passenger az 1;"), 0));
        Check.scriptFails(1, "^waitwait 1;");
        Check.scriptFails(1, "^wai t 1;");
        Check.scriptFails(1, "^Wait 1;");
        Check.scriptFails(1, "^wAit 1;");
    }

    private static void numbers() {
        Document.sentence("A number is a maximal run of digits, with or without leading zeros.");
        for (int b = 0; b < 256; b++) {
            boolean isDigit = b >= '0' && b <= '9';
            TicketCheck x = new TicketCheck();
            Check.due("byte " + b + " in a number", isDigit || b == ' ' ? 1 : NONE, Check.play(x, "wait 1" + (char) b + ";"));
            Check.due("the number", isDigit ? 10 + b - '0' : b == ' ' ? 1 : 0, x.clock());
        }
        Check.due("leading zeros", 12, Check.played("wait 000012;").clock());
        Check.due("many leading zeros", 9999, Check.played("wait " + "0".repeat(690) + "9999;").clock());
        Check.due("zeros alone", 0, Check.loaded("line 00 000;passenger a 0000;").money(0));
        Check.scriptFails(2, "wait ^00;");
        Check.scriptFails(2, "wait ^4294967297;");
        Check.scriptFails(2, "wait ^18446744073709551617;");
        Check.scriptFails(2, "wait ^" + "9".repeat(300) + ";");
        Check.setupFails(1, "line 01^;passenger a 1;");
    }

    private static void spaces() {
        Document.sentence("Spaces (byte 32) may stand before and after every token.");
        Check.due("a setup", 2, Check.load(new TicketCheck(), "  line  0  1  ;  passenger  a  1000  ;  passenger  b  1  ;  "
                + "buy  a  day  1  ;  ride  a  0  1  with  0  ;  inspect  a  ;  wait  1  ;  "));
        Check.due("a script", 4, Check.play(new TicketCheck(), "   ride  ann  0  1  ;  inspect  ann  ;  buy  ann  short  1  ;"
                + "   appeal  0  0  ;   "));
        Check.scriptFails(1, "wait^\t1;");
        Check.scriptFails(1, "wait 1;^\n");
        Check.scriptFails(1, "^\u00a0wait 1;");
        Document.sentence("They are needed only between two words and between two numbers.");
        TicketCheck x = new TicketCheck();
        Check.due("no other spaces", 1, Check.load(x, "line0 1;passenger a9000;buy a day3;ride a0 1with0;inspect a;wait2;"
                + "ride a1 0;inspect a;appeal0 0;decide0;wait2;"));
        Check.due("all is read", 4, x.clock());
        Check.scriptFails(1, "^inspectann;");
        Check.scriptFails(1, "ride ann 01^;");
    }

    private static void names() {
        Document.sentence("A name is a word of 1 to 6 letters; keywords may be used as names.");
        Check.due("one letter", "q", Check.name(Check.loaded("line 0 1;passenger q 1;"), 0));
        Check.due("six letters", "abcdef", Check.name(Check.loaded("line 0 1;passenger abcdef 1;"), 0));
        Check.setupFails(1, "line 0 1;passenger ^abcdefg 1;");
        Check.setupFails(1, "line 0 1;passenger ^1 1;");
        String[] keywords = {"line", "buy", "single", "day", "short", "ride", "with", "wait", "appeal", "decide", "pay"};
        for (String keyword : keywords) {
            TicketCheck x = Check.loaded("line 0 1;passenger " + keyword + " 9000;buy " + keyword + " day 1;ride " + keyword
                    + " 0 1 with 0;inspect " + keyword + ";");
            Check.due("the name", keyword, Check.name(x, 0));
            Check.due("the inspection of " + keyword, 3, x.caseFault(0));
        }
    }

    private static void commands() {
        Document.sentence("The commands call buy(), ride(), inspect(), waitFor(), appeal(), decide() and pay().");
        TicketCheck x = new TicketCheck();
        TicketCheck y = new TicketCheck();
        x.buy(0, TicketCheck.SINGLE, 3);
        calls("buy ann single 3;", x, y);
        x.buy(2, TicketCheck.DAY, 1);
        calls("buy cy day 1;", x, y);
        x.buy(1, TicketCheck.SHORT, 15);
        calls("buy bob short 15;", x, y);
        x.ride(0, 2, 7, 0);
        calls("ride ann 2 7 with 0;", x, y);
        x.ride(2, 6, 1, NONE);
        calls("ride cy 6 1;", x, y);
        x.inspect(0);
        calls("inspect ann;", x, y);
        x.inspect(2);
        calls("inspect cy;", x, y);
        x.waitFor(77);
        calls("wait 77;", x, y);
        x.appeal(1, 2);
        calls("appeal 1 2;", x, y);
        x.decide(1);
        calls("decide 1;", x, y);
        x.pay(1);
        calls("pay 1;", x, y);
        Document.sentence("A command is executed when its semicolon has been read.");
        Check.due("before the next command", 0, Check.played("buy ann day 1;ride ann 0 1 with 0;").rideTicket(0));
        Check.scriptFails(2, "ride ann 0 1 with ^0;buy ann day 1;");
        Check.scriptFails(6, "ride ann 0 7;ride ann 7 6^;");
        Check.scriptFails(1, "ride ann 0 7^");
        Check.scriptFails(6, "wait 1;inspect ann^;");
    }

    private static void calls(String command, TicketCheck called, TicketCheck played) {
        Check.due(command, 1, Check.play(played, command));
        Check.due("the state behind " + command, Check.statePicture(called), Check.statePicture(played));
    }

    private static void firstWrongToken() {
        Document.sentence("Parsing stops at the first wrong token.");
        Check.scriptFails(2, "wait ^0;inspect dan;buy;#");
        Check.scriptFails(3, "inspect ^dan;wait 0;buy;#");
        Check.scriptFails(1, "wait 1;^#;wait 0;inspect dan;");
        Check.scriptFails(6, "inspect ann^;wait 0;");
        Check.setupFails(2, "line 0 ^4 5;passenger a 1;passenger a 1;");
        Check.setupFails(4, "line 0 1;passenger a 1;passenger ^a 100000;wait 0;");
        Document.sentence("The error offset is the index of the first byte of that token, or the length of the text if the "
                + "text ends too early.");
        Check.scriptFails(2, "   wait   ^000000   ;");
        Check.scriptFails(3, "inspect   ^danny ;");
        Check.scriptFails(6, "inspect ann  ^;");
        Check.scriptFails(1, "^x");
        Check.scriptFails(1, "wait 1^");
        Check.scriptFails(1, "wait 1   ^");
        Check.setupFails(1, "^");
        Check.setupFails(1, "    ^");
        TicketCheck x = new TicketCheck();
        Check.play(x, " ".repeat(699) + "x");
        Check.due("the last byte", 699, x.errorOffset());
        Check.play(x, " ".repeat(696) + "wait");
        Check.due("the end of a full buffer behind a word", 700, x.errorOffset());
        Check.play(x, " ".repeat(694) + "wait 9");
        Check.due("the end of a full buffer behind a number", 700, x.errorOffset());
        Check.feed(x, "wait 9999;");
        x.truncateInput(8);
        x.play();
        Check.due("the end of a text that was cut off", 8, x.errorOffset());
    }

    private static void lowestCode() {
        Document.sentence("If several error codes apply to a token, the lowest code is reported.");
        Check.setupFails(2, FULL_LINE + " ^4;passenger a 1;");
        Check.setupFails(2, FULL_LINE + " ^99999999999 0;");
        Check.setupFails(5, FULL_LINE + " ^3 4;");
        Check.scriptFails(1, "inspect ^abcdefg;");
        Check.scriptFails(3, "inspect ^abcdef;");
        Check.scriptFails(1, "wait 1;inspect ann^");
        Check.setupFails(1, "line 0 1;" + EIGHT_PASSENGERS + "wait 1;^passenger i 0;");
    }

    private static void syntaxErrors() {
        Document.sentence("Code 1, syntax error: the token is not allowed there, the byte belongs to no token, a name has more "
                + "than 6 letters, or the text ends too early.");
        Check.scriptFails(1, "wait ^ann;");
        Check.scriptFails(1, "wait 1 ^1;");
        Check.scriptFails(1, "wait^;");
        Check.scriptFails(1, "^-1;");
        Check.scriptFails(1, "wait 1^.;");
        Check.setupFails(1, "line 0 1;passenger ^abcdefg 1;");
        Check.scriptFails(1, "buy ^abcdefg day 1;");
        Check.scriptFails(1, "ride ^abcdefg 0 1;");
        Check.scriptFails(1, "inspect ^abcdefghijklmnop;");
        Check.setupFails(1, "line 0 1;passenger a 1^");
        Check.scriptFails(1, "ride ann 0 1 with^");
    }

    private static void rangeErrors() {
        Document.sentence("Code 2, number out of range: the ranges are those of this document; a stop, a ticket or a case that "
                + "does not exist; the second stop of \"ride\", if it is the first one; minutes of \"wait\" 1 to 9999, and the "
                + "clock may not exceed 99999 (a range error, too).");
        Check.setupFails(2, "line ^4 0;");
        Check.setupFails(2, "line 0 1;passenger a ^100000;");
        Check.scriptFails(2, "buy ann day ^0;");
        Check.scriptFails(2, "buy ann day ^16;");
        Check.due("the lowest and the highest zones", 2, Check.play(new TicketCheck(), "buy ann day 1;buy ann day 15;"));
        Check.scriptFails(2, "ride ann ^8 0;");
        Check.scriptFails(2, "ride ann 0 ^8;");
        Check.due("the first and the last stop", 2, Check.play(new TicketCheck(), "ride ann 0 7;ride bob 7 0;"));
        Check.scriptFails(2, "ride ann 0 1 with ^0;");
        Check.scriptFails(2, "buy ann day 1;ride ann 0 1 with ^1;");
        String withCase = "ride ann 0 1;inspect ann;";
        Check.scriptFails(2, "buy ann day 1;appeal ^0 0;");
        Check.scriptFails(2, withCase + "appeal 0 ^0;");
        Check.scriptFails(2, withCase + "buy ann day 1;appeal ^1 0;");
        Check.scriptFails(2, withCase + "buy ann day 1;appeal 0 ^1;");
        Check.scriptFails(2, "decide ^0;");
        Check.scriptFails(2, withCase + "decide ^1;");
        Check.scriptFails(2, "pay ^0;");
        Check.scriptFails(2, withCase + "pay ^1;");
        Check.scriptFails(2, "ride ann 0 ^0;");
        Check.scriptFails(2, "ride ann 7 ^007;");
        Check.scriptFails(2, "wait ^0;");
        Check.scriptFails(2, "wait ^10000;");
        Check.due("the shortest and the longest wait", 2, Check.play(new TicketCheck(), "wait 1;wait 9999;"));
        Check.due("up to 99999", 99999, Check.played(Check.TO_THE_END).clock());
        Check.scriptFails(2, Check.TO_THE_END + "wait ^1;");
        Check.scriptFails(2, "wait 9999;".repeat(10) + "wait ^10;");
        Check.scriptFails(2, "wait 9999;".repeat(10) + "wait ^10");
        Check.scriptFails(1, Check.TO_THE_END + "wait ^;");
        Check.setupFails(2, Check.SMALL + "ride a 0 ^2;");
        Check.setupFails(2, Check.SMALL + "ride a 0 ^99999999999999999999;");
    }

    private static void otherErrors() {
        Document.sentence("Code 3, unknown name: no passenger has the name that is required there.");
        Check.scriptFails(3, "buy ^dan day 1;");
        Check.scriptFails(3, "ride ^an 0 1;");
        Check.scriptFails(3, "inspect ^annx;");
        Check.setupFails(3, "line 0 1;passenger a 1;inspect ^ann;");
        Document.sentence("Code 4, duplicate name: an earlier passenger has the name of a new passenger.");
        Check.setupFails(4, "line 0 1;passenger a 1;passenger b 1;passenger ^a 1;");
        Check.setupFails(4, "line 0 1;passenger a 1;passenger b 1;passenger ^b 1;");
        Check.due("names that are alike", 3, Check.load(new TicketCheck(),
                "line 0 1;passenger ab 1;passenger a 1;passenger abc 1;"));
        Document.sentence("Code 5, too many: the zone of a 13th stop, or the word \"passenger\" of a 9th passenger.");
        Check.setupFails(5, FULL_LINE + " ^0;passenger a 1;");
        Check.setupFails(5, FULL_LINE + " ^3");
        Check.setupFails(5, "line 0 1;" + EIGHT_PASSENGERS + "^passenger i 0;");
        Check.setupFails(5, "line 0 1;" + EIGHT_PASSENGERS + "^passenger");
        Document.sentence("Code 6, not possible: the semicolon of a command, if the method would throw an "
                + "IllegalStateException.");
        String withCase = "ride ann 0 1;inspect ann;";
        for (String refused : new String[] {
            "buy cy short 1;".repeat(30) + "buy cy short 1^;", "buy bob day 7^;",
            "ride ann 0 1;ride ann 1 0^;", "buy ann day 1;ride bob 0 1 with 0^;",
            "inspect ann^;", withCase + "inspect ann^;", "ride cy0 1;inspect cy;wait2;".repeat(20) + "ride cy0 1;inspect cy^;",
            withCase + "buy ann day 1;appeal 0 0;appeal 0 0^;",
            withCase + "buy ann day 1;" + Check.FOURTEEN_DAYS + "wait 1;appeal 0 0^;",
            withCase + "decide 0^;",
            withCase + "pay 0;pay 0^;", withCase + "buy ann day 1;appeal 0 0;pay 0^;", "ride bob 0 1;inspect bob;pay 0^;"}) {
            Check.scriptFails(6, refused);
        }
    }

    // ---- Term 6

    private static void isChange(String what, TicketCheck x, int changes) {
        Check.due(what + " is a change", changes, x.undoableChanges());
    }

    private static void changes() {
        Document.sentence("Successful calls of load(), play(), buy(), ride(), inspect(), waitFor(), appeal(), decide(), pay() "
                + "and restore() are changes, even if they have no effect.");
        TicketCheck x = new TicketCheck();
        x.buy(0, TicketCheck.DAY, 1);
        isChange("buy", x, 1);
        x.ride(0, 0, 7, 0);
        isChange("ride", x, 2);
        x.inspect(0);
        isChange("inspect", x, 3);
        x.waitFor(1);
        isChange("waitFor", x, 4);
        x.appeal(0, 0);
        isChange("appeal", x, 5);
        x.decide(0);
        isChange("decide", x, 6);
        x.pay(0);
        isChange("pay", x, 7);
        TicketCheck y = new TicketCheck();
        y.save(0);
        y.play();
        isChange("play without an effect", y, 1);
        y.restore(0);
        isChange("restore without an effect", y, 2);
        Check.load(y, Check.DEFAULT);
        isChange("load without an effect", y, 3);
        y.ride(0, 0, 1, y.buy(0, TicketCheck.DAY, 1));
        y.inspect(0);
        isChange("inspect without a fault", y, 6);
        Check.answer(() -> y.inspect(0));
        Check.play(y, "wait 0;");
        Check.load(y, "wait 0;");
        y.save(1);
        y.writeCases();
        isChange("nothing else", y, 6);
    }

    private static void eightChanges() {
        Document.sentence("The latest 8 changes can be undone, the latest first.");
        TicketCheck x = new TicketCheck();
        for (int i = 0; i < 8; i++) {
            x.waitFor(1 << i);
        }
        for (int i = 7; i >= 0; i--) {
            Check.due("left", i, x.undo());
            Check.due("the clock before the change", (1 << i) - 1, x.clock());
        }
        Check.dueThrow("no more", x, Check.NOT_NOW, () -> x.undo());
        Document.sentence("A ninth change discards the oldest one.");
        TicketCheck y = new TicketCheck();
        for (int i = 0; i < 9; i++) {
            y.waitFor(1 << i);
        }
        Check.due("eight are left", 8, y.undoableChanges());
        for (int i = 8; i >= 1; i--) {
            y.undo();
            Check.due("the clock before the change", (1 << i) - 1, y.clock());
        }
        Check.dueThrow("the first one cannot be undone", y, Check.NOT_NOW, () -> y.undo());
        for (int i = 1; i <= 25; i++) {
            y.waitFor(10 * i);
        }
        for (int i = 24; i >= 17; i--) {
            y.undo();
            Check.due("the clock behind " + i + " of 25 changes", 1 + 5 * i * (i + 1), y.clock());
        }
        Check.dueThrow("no ninth one of 25", y, Check.NOT_NOW, () -> y.undo());
        Document.sentence("An undone change cannot be redone.");
        TicketCheck z = Check.played("wait 1;");
        z.waitFor(2);
        z.undo();
        z.waitFor(4);
        Check.due("the undone change is gone", 5, z.clock());
        z.undo();
        Check.due("back behind the first change", 1, z.clock());
        z.undo();
        Check.due("back at the start", 0, z.clock());
        Check.dueThrow("nothing more", z, Check.NOT_NOW, () -> z.undo());
    }

    private static void whatUndoBringsBack() {
        Document.sentence("Undo and restore bring back the line, the passengers, the tickets, the cases, the clock and "
                + "the totals.");
        TicketCheck x = withCase();
        Check.more(x, "wait 14;buy ann day 1;ride ann 0 7;inspect ann;pay 1;appeal 0 1;");
        String before = Check.statePicture(x);
        x.save(0);
        Check.load(x, "line 3 3 3;passenger x 7;passenger y 8;passenger z 9;wait 3;ride y 0 1;inspect y;");
        String loaded = Check.statePicture(x);
        x.undo();
        Check.due("undo of a load", before, Check.statePicture(x));
        Check.more(x, "decide 0;pay 0;wait 14;ride ann 5 0 with 2;inspect ann;buy ann short 15;");
        Check.due("another state", false, before.equals(Check.statePicture(x)));
        x.undo();
        Check.due("undo of a script", before, Check.statePicture(x));
        Check.load(x, "line 3 3 3;passenger x 7;passenger y 8;passenger z 9;wait 3;ride y 0 1;inspect y;");
        x.restore(0);
        Check.due("restore behind a load", before, Check.statePicture(x));
        x.undo();
        Check.due("undo of the restore", loaded, Check.statePicture(x));
    }

    private static void whatUndoLeavesAlone() {
        Document.sentence("They do not affect the input buffer, the reported error, the output or the saved states. "
                + "load() keeps the saved states.");
        TicketCheck x = withCase();
        x.save(0);
        x.waitFor(1);
        x.save(1);
        x.writeCases();
        Check.more(x, "pay 0;");
        Check.play(x, "wait 1;wait 0;");
        Check.feed(x, "wait 7;");
        x.undo();
        leftAlone("undo", x);
        x.restore(0);
        leftAlone("restore", x);
        Check.due("the input is read", 1, x.play());
        Check.due("it is what it was", 9, x.clock());
        Check.due("slot 0", 2, x.restore(0));
        Check.due("slot 1", 3, x.restore(1));
        Check.load(x, Check.SMALL);
        Check.due("slot 0 behind a load", 2, x.restore(0));
        Check.due("slot 1 behind a load", 3, x.restore(1));
        Check.load(x, "");
        Check.due("slot 0 behind an error", 2, x.restore(0));
    }

    private static void leftAlone(String what, TicketCheck x) {
        Check.due("the input behind " + what, 7, x.truncateInput(7));
        Check.due("no more input behind " + what, "throws " + Check.BAD.getName(),
                Check.answer(() -> x.truncateInput(8)));
        Check.due("the code behind " + what, 2, x.errorCode());
        Check.due("the offset behind " + what, 12, x.errorOffset());
        Check.due("the output behind " + what, "ann:6000", Check.output(x));
    }

    private static void exceptions() {
        Document.sentence("A method that throws an exception changes nothing.");
        TicketCheck x = withCase();
        x.save(1);
        x.waitFor(1);
        Check.play(x, "wait 0;");
        x.writeCases();
        Check.feed(x, "wait 7;");
        Check.dueThrow("truncateInput", x, Check.BAD, () -> x.truncateInput(8));
        Check.dueThrow("buy", x, Check.NOT_NOW, () -> x.buy(1, TicketCheck.SHORT, 1));
        Check.dueThrow("ride", x, Check.NOT_NOW, () -> x.ride(0, 0, 1, 0));
        Check.dueThrow("ride with another one's ticket", x, Check.NOT_NOW, () -> x.ride(1, 0, 1, 1));
        Check.dueThrow("inspect", x, Check.NOT_NOW, () -> x.inspect(0));
        Check.dueThrow("waitFor", x, Check.BAD, () -> x.waitFor(10000));
        Check.dueThrow("appeal", x, Check.NO_SUCH, () -> x.appeal(0, 2));
        Check.dueThrow("decide", x, Check.NOT_NOW, () -> x.decide(0));
        Check.dueThrow("pay", x, Check.NO_SUCH, () -> x.pay(1));
        Check.dueThrow("save", x, Check.BAD, () -> x.save(2));
        Check.dueThrow("restore", x, Check.NOT_NOW, () -> x.restore(0));
        Check.due("the input is read", 1, x.play());
        Check.due("it is what it was", 10, x.clock());
        Check.due("slot 1 is what it was", 2, x.restore(1));
        Document.sentence("If several exceptions apply, the one that is listed first is thrown.");
        TicketCheck y = withTwentyCases();
        Check.more(y, "buy cy short 1;".repeat(30) + "pay 0;ride ann 0 1;" + "wait 1;");
        Check.dueThrow("buy: passenger", y, Check.NO_SUCH, () -> y.buy(3, 3, 0));
        Check.dueThrow("buy: kind", y, Check.BAD, () -> y.buy(0, 3, 1));
        Check.dueThrow("buy: zones", y, Check.BAD, () -> y.buy(0, 0, 16));
        Check.dueThrow("ride: passenger", y, Check.NO_SUCH, () -> y.ride(3, 1, 1, NONE));
        Check.dueThrow("ride: stop", y, Check.NO_SUCH, () -> y.ride(0, 8, 8, 0));
        Check.dueThrow("ride: ticket", y, Check.NO_SUCH, () -> y.ride(0, 1, 1, 30));
        Check.dueThrow("ride: the same stop", y, Check.BAD, () -> y.ride(0, 1, 1, 0));
        Check.dueThrow("appeal: ticket", y, Check.NO_SUCH, () -> y.appeal(0, 30));
        Check.more(y, "wait 9999;".repeat(9));
        Check.dueThrow("waitFor: minutes", y, Check.BAD, () -> y.waitFor(10000));
        Check.dueThrow("restore: slot", y, Check.BAD, () -> y.restore(2));
    }

    private static void constants() {
        Document.sentence("The constants: `NONE = -1`: The value that means \"none\".");
        Check.due("NONE", -1, TicketCheck.NONE);
        Check.due("an answer", -1, new TicketCheck().outputByte(0));
        Document.sentence("The kind of a ticket for 60 minutes.");
        Check.due("SINGLE", 0, TicketCheck.SINGLE);
        inTimeIs(false, "buy ann single 1;ride ann 0 1 with 0;wait 60;");
        Document.sentence("The kind of a ticket for a day.");
        Check.due("DAY", 1, TicketCheck.DAY);
        inTimeIs(true, "buy ann day 1;ride ann 0 1 with 0;wait 60;");
        Document.sentence("The kind of a ticket for a few stops.");
        Check.due("SHORT", 2, TicketCheck.SHORT);
        faultIs(5, "buy ann short 15;ride ann 0 7 with 0;");
        Document.sentence("The state of a case that has just been opened.");
        Check.due("OPEN", 0, TicketCheck.OPEN);
        Check.due("the state", 0, withCase().caseState(0));
        Document.sentence("The state of a case whose appeal has not been decided.");
        Check.due("APPEALED", 1, TicketCheck.APPEALED);
        Check.due("the state", 1, behind(withCase(), "appeal 0 1;").caseState(0));
        Document.sentence("The state of a case whose appeal was successful.");
        Check.due("REDUCED", 2, TicketCheck.REDUCED);
        Check.due("the state", 2, decided(0).caseState(0));
        Document.sentence("The state of a case whose appeal was not successful.");
        Check.due("REJECTED", 3, TicketCheck.REJECTED);
        Check.due("the state", 3, decided(1).caseState(0));
        Document.sentence("The state of a case that has been paid.");
        Check.due("PAID", 4, TicketCheck.PAID);
        Check.due("the state", 4, behind(withCase(), "pay 0;").caseState(0));
    }
}

/** Ticket inspections on a tram line with fare zones, as the numbered promises of DOC.md describe them. */
public final class TicketCheck {
    public static final int NONE = -1;
    public static final int SINGLE = 0;
    public static final int DAY = 1;
    public static final int SHORT = 2;
    public static final int OPEN = 0;
    public static final int APPEALED = 1;
    public static final int REDUCED = 2;
    public static final int REJECTED = 3;
    public static final int PAID = 4;

    private static final int MIN_STOPS = 2;
    private static final int MAX_STOPS = 12;
    private static final int MAX_ZONE = 3;
    private static final int ALL_ZONES = 15;
    private static final int MAX_PASSENGERS = 8;
    private static final int MAX_NAME = 6;
    private static final int MAX_MONEY = 99999;
    private static final int MAX_TICKETS = 30;
    private static final int MAX_CASES = 20;
    private static final int MAX_CLOCK = 99999;
    private static final int MAX_WAIT = 9999;
    private static final int MAX_CHANGES = 8;
    private static final int MAX_INPUT = 700;
    private static final int WORDS_PER_APPEND = 5;
    private static final int BYTES_PER_WORD = 4;
    private static final int SLOTS = 2;

    private static final int MINUTES_PER_DAY = 1440;
    private static final int MINUTES_PER_STOP = 2;
    private static final int SINGLE_MINUTES = 60;
    private static final int SHORT_MINUTES = 30;
    private static final int SINGLE_RIDES = 3;
    private static final int SHORT_STOPS = 4;
    private static final int SINGLE_CENTS = 200;
    private static final int DAY_CENTS = 500;
    private static final int SHORT_CENTS = 150;

    private static final int NO_FAULT = 0;
    private static final int NO_TICKET = 1;
    private static final int NOT_IN_TIME = 2;
    private static final int WRONG_ZONES = 3;
    private static final int TOO_MANY_RIDES = 4;
    private static final int TOO_FAR = 5;

    private static final int FINE_CENTS = 6000;
    private static final int REDUCED_CENTS = 700;
    private static final int REJECTION_CENTS = 500;
    private static final int OVERDUE_CENTS = 1500;
    private static final int OVERDUE_MINUTES = 20160;

    /** The document's state: all that undo() and restore() bring back. */
    private final State present = new State();
    /** load() and play() work here, so that an error leaves the present state alone. */
    private final State draft = new State();
    private final State[] history = new State[MAX_CHANGES];
    private int changeCount;
    private final State[] saved = new State[SLOTS];
    private final boolean[] isSaved = new boolean[SLOTS];
    private final Parser parser = new Parser(draft);
    private final StringBuilder output = new StringBuilder();

    public TicketCheck() {
        for (int i = 0; i < MAX_CHANGES; i++) {
            history[i] = new State();
        }
        for (int i = 0; i < SLOTS; i++) {
            saved[i] = new State();
        }
        for (int stop = 0; stop < 8; stop++) {
            present.addStop(stop / 3);
        }
        present.addPassenger("ann", 9000);
        present.addPassenger("bob", 1200);
        present.addPassenger("cy", 20000);
    }

    // ---- input

    public int append(int a, int b, int c, int d, int e) {
        if (parser.length > MAX_INPUT - WORDS_PER_APPEND * BYTES_PER_WORD) {
            return NONE;
        }
        parser.addBytes(a);
        parser.addBytes(b);
        parser.addBytes(c);
        parser.addBytes(d);
        parser.addBytes(e);
        return parser.length;
    }

    public int truncateInput(int length) throws IllegalArgumentException {
        if (length < 0 || length > parser.length) {
            throw new IllegalArgumentException("length out of range");
        }
        parser.length = length;
        return length;
    }

    public int load() {
        draft.clear();
        parser.begin();
        parser.readLine();
        parser.readPassengers();
        parser.readCommands();
        return endParsing(draft.passengerCount);
    }

    public int play() {
        draft.copyFrom(present);
        parser.begin();
        return endParsing(parser.readCommands());
    }

    public int errorCode() {
        return parser.error;
    }

    public int errorOffset() {
        return parser.errorOffset;
    }

    // ---- changes

    public int buy(int passenger, int kind, int zones)
            throws IndexOutOfBoundsException, IllegalArgumentException, IllegalStateException {
        requirePassenger(passenger);
        if (kind < SINGLE || kind > SHORT) {
            throw new IllegalArgumentException("no such kind");
        }
        if (zones < 1 || zones > ALL_ZONES) {
            throw new IllegalArgumentException("zones out of range");
        }
        if (!present.canSell(passenger, kind, zones)) {
            throw new IllegalStateException("too many tickets or not enough money");
        }
        keepForUndo();
        return present.sell(passenger, kind, zones);
    }

    public int ride(int passenger, int from, int to, int ticket)
            throws IndexOutOfBoundsException, IllegalArgumentException, IllegalStateException {
        requirePassenger(passenger);
        requireStop(from);
        requireStop(to);
        if (ticket != NONE) {
            requireTicket(ticket);
        }
        if (to == from) {
            throw new IllegalArgumentException("a ride leads to another stop");
        }
        if (!present.canBeginRide(passenger, ticket)) {
            throw new IllegalStateException("on the tram, or the ticket of another passenger");
        }
        keepForUndo();
        return present.beginRide(passenger, from, to, ticket);
    }

    public int inspect(int passenger) throws IndexOutOfBoundsException, IllegalStateException {
        requirePassenger(passenger);
        if (!present.canInspect(passenger)) {
            throw new IllegalStateException("not on the tram, inspected already, or too many cases");
        }
        keepForUndo();
        return present.inspectRide(passenger);
    }

    public int waitFor(int minutes) throws IllegalArgumentException, IllegalStateException {
        if (minutes < 1 || minutes > MAX_WAIT) {
            throw new IllegalArgumentException("minutes out of range");
        }
        if (minutes > MAX_CLOCK - present.clock) {
            throw new IllegalStateException("the clock would go too far");
        }
        keepForUndo();
        present.clock += minutes;
        return present.clock;
    }

    public int appeal(int number, int ticket) throws IndexOutOfBoundsException, IllegalStateException {
        requireCase(number);
        requireTicket(ticket);
        if (!present.canAppeal(number)) {
            throw new IllegalStateException("not open, or overdue");
        }
        keepForUndo();
        return present.beginAppeal(number, ticket);
    }

    public int decide(int number) throws IndexOutOfBoundsException, IllegalStateException {
        requireCase(number);
        if (!present.canDecide(number)) {
            throw new IllegalStateException("not appealed");
        }
        keepForUndo();
        return present.decideAppeal(number);
    }

    public int pay(int number) throws IndexOutOfBoundsException, IllegalStateException {
        requireCase(number);
        if (!present.canPay(number)) {
            throw new IllegalStateException("appealed, paid, or not enough money");
        }
        keepForUndo();
        return present.payCase(number);
    }

    public int undo() throws IllegalStateException {
        if (changeCount < 1) {
            throw new IllegalStateException("no change to undo");
        }
        changeCount--;
        present.copyFrom(history[changeCount]);
        return changeCount;
    }

    public int save(int slot) throws IllegalArgumentException {
        requireSlot(slot);
        saved[slot].copyFrom(present);
        isSaved[slot] = true;
        return present.clock;
    }

    public int restore(int slot) throws IllegalArgumentException, IllegalStateException {
        requireSlot(slot);
        if (!isSaved[slot]) {
            throw new IllegalStateException("nothing is saved there");
        }
        keepForUndo();
        present.copyFrom(saved[slot]);
        return present.clock;
    }

    // ---- the line

    public int clock() {
        return present.clock;
    }

    public int day() {
        return dayOf(present.clock);
    }

    public int stopCount() {
        return present.stopCount;
    }

    public int passengerCount() {
        return present.passengerCount;
    }

    public int ticketCount() {
        return present.ticketCount;
    }

    public int caseCount() {
        return present.caseCount;
    }

    public int undoableChanges() {
        return changeCount;
    }

    public int zone(int stop) throws IndexOutOfBoundsException {
        requireStop(stop);
        return present.zones[stop];
    }

    public int zonesBetween(int from, int to) throws IndexOutOfBoundsException {
        requireStop(from);
        requireStop(to);
        return present.rideZones(from, to);
    }

    // ---- passengers

    public int money(int passenger) throws IndexOutOfBoundsException {
        requirePassenger(passenger);
        return present.passengers[passenger].money;
    }

    public boolean isRiding(int passenger) throws IndexOutOfBoundsException {
        requirePassenger(passenger);
        return present.passengers[passenger].isOnTram(present.clock);
    }

    public int rideEnd(int passenger) throws IndexOutOfBoundsException {
        requirePassenger(passenger);
        return present.passengers[passenger].rideEnd;
    }

    public int rideTicket(int passenger) throws IndexOutOfBoundsException {
        requirePassenger(passenger);
        return present.passengers[passenger].rideTicket;
    }

    public int faultNow(int passenger) throws IndexOutOfBoundsException {
        requirePassenger(passenger);
        return present.findFault(passenger);
    }

    public int debt(int passenger) throws IndexOutOfBoundsException {
        requirePassenger(passenger);
        return present.sumOfDebts(passenger);
    }

    public int unpaidCases(int passenger) throws IndexOutOfBoundsException {
        requirePassenger(passenger);
        return present.countUnpaid(passenger);
    }

    public int nameByte(int passenger, int index) throws IndexOutOfBoundsException {
        requirePassenger(passenger);
        String name = present.passengers[passenger].name;
        return index >= 0 && index < name.length() ? name.charAt(index) : NONE;
    }

    public int cheapestKind(int from, int to) throws IndexOutOfBoundsException {
        requireStop(from);
        requireStop(to);
        int zones = present.rideZones(from, to);
        int cheapest = SINGLE;
        for (int kind = DAY; kind <= SHORT; kind++) {
            boolean covers = kind != SHORT || Math.abs(to - from) <= SHORT_STOPS;
            if (covers && priceOf(kind, zones) < priceOf(cheapest, zones)) {
                cheapest = kind;
            }
        }
        return cheapest;
    }

    // ---- tickets

    public int ticketHolder(int ticket) throws IndexOutOfBoundsException {
        requireTicket(ticket);
        return present.tickets[ticket].holder;
    }

    public int ticketKind(int ticket) throws IndexOutOfBoundsException {
        requireTicket(ticket);
        return present.tickets[ticket].kind;
    }

    public int ticketZones(int ticket) throws IndexOutOfBoundsException {
        requireTicket(ticket);
        return present.tickets[ticket].zones;
    }

    public int ticketPrice(int ticket) throws IndexOutOfBoundsException {
        requireTicket(ticket);
        return present.tickets[ticket].price();
    }

    public int stampTime(int ticket) throws IndexOutOfBoundsException {
        requireTicket(ticket);
        return present.tickets[ticket].stampTime;
    }

    public int stampStop(int ticket) throws IndexOutOfBoundsException {
        requireTicket(ticket);
        return present.tickets[ticket].stampStop;
    }

    public int ticketRides(int ticket) throws IndexOutOfBoundsException {
        requireTicket(ticket);
        return present.tickets[ticket].rides;
    }

    public boolean isInTime(int ticket) throws IndexOutOfBoundsException {
        requireTicket(ticket);
        return present.tickets[ticket].inTimeAt(present.clock);
    }

    // ---- cases

    public int casePassenger(int number) throws IndexOutOfBoundsException {
        requireCase(number);
        return present.cases[number].passenger;
    }

    public int caseFault(int number) throws IndexOutOfBoundsException {
        requireCase(number);
        return present.cases[number].fault;
    }

    public int caseState(int number) throws IndexOutOfBoundsException {
        requireCase(number);
        return present.cases[number].state;
    }

    public int caseTime(int number) throws IndexOutOfBoundsException {
        requireCase(number);
        return present.cases[number].time;
    }

    public int amountDue(int number) throws IndexOutOfBoundsException {
        requireCase(number);
        return present.cases[number].costAt(present.clock);
    }

    public int caseTicket(int number) throws IndexOutOfBoundsException {
        requireCase(number);
        return present.cases[number].ticket;
    }

    public boolean isOverdue(int number) throws IndexOutOfBoundsException {
        requireCase(number);
        return present.cases[number].overdueAt(present.clock);
    }

    public int outlook(int number, int ticket) throws IndexOutOfBoundsException {
        requireCase(number);
        requireTicket(ticket);
        return present.decisionFor(number, ticket);
    }

    // ---- totals and consistency

    public int ticketSales() {
        return present.sumOfPrices();
    }

    public int finesPaid() {
        return present.finesPaid;
    }

    public int inspections() {
        return present.inspectionCount;
    }

    public int inconsistencies() {
        int missing = present.moneyAtLoad - present.sumOfPrices() - present.finesPaid - present.sumOfMoney();
        return Math.abs(missing) + present.countOddStamps();
    }

    public double faultShare() {
        if (present.inspectionCount == 0) {
            return 0.0;
        }
        return (double) present.caseCount / (double) present.inspectionCount;
    }

    public float meanPrice() {
        if (present.ticketCount == 0) {
            return 0.0f;
        }
        return (float) present.sumOfPrices() / (float) present.ticketCount;
    }

    // ---- output

    public int writeCases() {
        output.setLength(0);
        for (int number = 0; number < present.caseCount; number++) {
            if (present.cases[number].state != PAID) {
                writeCase(present.cases[number]);
            }
        }
        return output.length();
    }

    public int outputByte(int index) {
        return index >= 0 && index < output.length() ? output.charAt(index) : NONE;
    }

    private void writeCase(Case written) {
        if (output.length() > 0) {
            output.append(' ');
        }
        output.append(present.passengers[written.passenger].name);
        output.append(':');
        output.append(written.costAt(present.clock));
        if (written.overdueAt(present.clock)) {
            output.append('!');
        }
    }

    private int endParsing(int answer) {
        parser.length = 0;
        if (parser.error != 0) {
            return NONE;
        }
        keepForUndo();
        present.copyFrom(draft);
        return answer;
    }

    private void keepForUndo() {
        if (changeCount == MAX_CHANGES) {
            discardOldestChange();
        }
        history[changeCount].copyFrom(present);
        changeCount++;
    }

    /** The oldest row goes to the end, so that no new one is ever made. */
    private void discardOldestChange() {
        State oldest = history[0];
        for (int i = 1; i < MAX_CHANGES; i++) {
            history[i - 1] = history[i];
        }
        history[MAX_CHANGES - 1] = oldest;
        changeCount = MAX_CHANGES - 1;
    }

    private void requirePassenger(int passenger) {
        if (passenger < 0 || passenger >= present.passengerCount) {
            throw new IndexOutOfBoundsException("no such passenger");
        }
    }

    private void requireStop(int stop) {
        if (stop < 0 || stop >= present.stopCount) {
            throw new IndexOutOfBoundsException("no such stop");
        }
    }

    private void requireTicket(int ticket) {
        if (ticket < 0 || ticket >= present.ticketCount) {
            throw new IndexOutOfBoundsException("no such ticket");
        }
    }

    private void requireCase(int number) {
        if (number < 0 || number >= present.caseCount) {
            throw new IndexOutOfBoundsException("no such case");
        }
    }

    private static void requireSlot(int slot) {
        if (slot < 0 || slot >= SLOTS) {
            throw new IllegalArgumentException("no such slot");
        }
    }

    private static int dayOf(int time) {
        return time / MINUTES_PER_DAY;
    }

    private static int priceOf(int kind, int zones) {
        if (kind == SHORT) {
            return SHORT_CENTS;
        }
        return Integer.bitCount(zones) * (kind == DAY ? DAY_CENTS : SINGLE_CENTS);
    }

    /** A passenger with the latest ride. */
    private static final class Passenger {
        String name = "";
        int money;
        /** NONE as long as there was no ride, as are the other parts of the ride. */
        int rideFrom = NONE;
        int rideTo = NONE;
        int rideEnd = NONE;
        int rideTicket = NONE;
        boolean inspected;

        void enter(String newName, int cents) {
            name = newName;
            money = cents;
            takeRide(NONE, NONE, NONE, NONE);
        }

        void takeRide(int from, int to, int end, int ticket) {
            rideFrom = from;
            rideTo = to;
            rideEnd = end;
            rideTicket = ticket;
            inspected = false;
        }

        boolean isOnTram(int clock) {
            return clock < rideEnd;
        }

        void copyFrom(Passenger other) {
            name = other.name;
            money = other.money;
            takeRide(other.rideFrom, other.rideTo, other.rideEnd, other.rideTicket);
            inspected = other.inspected;
        }
    }

    private static final class Ticket {
        int holder;
        int kind;
        int zones;
        int stampTime;
        int stampStop;
        int rides;

        void issue(int newHolder, int newKind, int newZones) {
            holder = newHolder;
            kind = newKind;
            zones = newZones;
            stampTime = NONE;
            stampStop = NONE;
            rides = 0;
        }

        void useForRide(int clock, int stop) {
            if (!isStamped()) {
                stampTime = clock;
                stampStop = stop;
            }
            rides++;
        }

        boolean isStamped() {
            return stampTime != NONE;
        }

        int price() {
            return priceOf(kind, zones);
        }

        boolean inTimeAt(int clock) {
            if (!isStamped()) {
                return true;
            }
            if (kind == DAY) {
                return dayOf(clock) == dayOf(stampTime);
            }
            return clock - stampTime < (kind == SHORT ? SHORT_MINUTES : SINGLE_MINUTES);
        }

        boolean hasZones(int wanted) {
            return (wanted & ~zones) == 0;
        }

        void copyFrom(Ticket other) {
            holder = other.holder;
            kind = other.kind;
            zones = other.zones;
            stampTime = other.stampTime;
            stampStop = other.stampStop;
            rides = other.rides;
        }
    }

    private static final class Case {
        int passenger;
        int fault;
        int time;
        /** Of the inspected ride; the passenger's latest ride may be another one by the decision. */
        int zones;
        int state;
        int amount;
        int ticket;

        void open(int accused, int foundFault, int clock, int inspectedZones) {
            passenger = accused;
            fault = foundFault;
            time = clock;
            zones = inspectedZones;
            state = OPEN;
            amount = FINE_CENTS;
            ticket = NONE;
        }

        boolean overdueAt(int clock) {
            return state != PAID && clock > time + OVERDUE_MINUTES;
        }

        int costAt(int clock) {
            if (state == PAID) {
                return 0;
            }
            return overdueAt(clock) ? amount + OVERDUE_CENTS : amount;
        }

        boolean isExcusedBy(Ticket shown) {
            return shown.holder == passenger
                    && shown.kind == DAY
                    && shown.isStamped()
                    && shown.stampTime <= time
                    && dayOf(shown.stampTime) == dayOf(time)
                    && shown.hasZones(zones);
        }

        void copyFrom(Case other) {
            passenger = other.passenger;
            fault = other.fault;
            time = other.time;
            zones = other.zones;
            state = other.state;
            amount = other.amount;
            ticket = other.ticket;
        }
    }

    /** The line with all that happens on it. Callers look at every number before they hand it over. */
    private static final class State {
        int clock;
        int finesPaid;
        int inspectionCount;
        int moneyAtLoad;
        int stopCount;
        int passengerCount;
        int ticketCount;
        int caseCount;
        final int[] zones = new int[MAX_STOPS];
        final Passenger[] passengers = new Passenger[MAX_PASSENGERS];
        final Ticket[] tickets = new Ticket[MAX_TICKETS];
        final Case[] cases = new Case[MAX_CASES];

        State() {
            for (int i = 0; i < MAX_PASSENGERS; i++) {
                passengers[i] = new Passenger();
            }
            for (int i = 0; i < MAX_TICKETS; i++) {
                tickets[i] = new Ticket();
            }
            for (int i = 0; i < MAX_CASES; i++) {
                cases[i] = new Case();
            }
        }

        void clear() {
            clock = 0;
            finesPaid = 0;
            inspectionCount = 0;
            moneyAtLoad = 0;
            stopCount = 0;
            passengerCount = 0;
            ticketCount = 0;
            caseCount = 0;
        }

        void copyFrom(State other) {
            clock = other.clock;
            finesPaid = other.finesPaid;
            inspectionCount = other.inspectionCount;
            moneyAtLoad = other.moneyAtLoad;
            stopCount = other.stopCount;
            passengerCount = other.passengerCount;
            ticketCount = other.ticketCount;
            caseCount = other.caseCount;
            System.arraycopy(other.zones, 0, zones, 0, MAX_STOPS);
            for (int i = 0; i < passengerCount; i++) {
                passengers[i].copyFrom(other.passengers[i]);
            }
            for (int i = 0; i < ticketCount; i++) {
                tickets[i].copyFrom(other.tickets[i]);
            }
            for (int i = 0; i < caseCount; i++) {
                cases[i].copyFrom(other.cases[i]);
            }
        }

        void addStop(int zone) {
            if (stopCount < MAX_STOPS) {
                zones[stopCount] = zone;
                stopCount++;
            }
        }

        void addPassenger(String name, int cents) {
            if (passengerCount < MAX_PASSENGERS) {
                passengers[passengerCount].enter(name, cents);
                passengerCount++;
                moneyAtLoad += cents;
            }
        }

        int rideZones(int from, int to) {
            int mask = 0;
            int last = Math.max(from, to);
            for (int stop = Math.min(from, to); stop <= last; stop++) {
                mask |= 1 << zones[stop];
            }
            return mask;
        }

        boolean canSell(int passenger, int kind, int ticketZones) {
            return ticketCount < MAX_TICKETS && passengers[passenger].money >= priceOf(kind, ticketZones);
        }

        int sell(int passenger, int kind, int ticketZones) {
            int number = ticketCount;
            tickets[number].issue(passenger, kind, ticketZones);
            passengers[passenger].money -= priceOf(kind, ticketZones);
            ticketCount++;
            return number;
        }

        boolean canBeginRide(int passenger, int ticket) {
            return !passengers[passenger].isOnTram(clock)
                    && (ticket == NONE || tickets[ticket].holder == passenger);
        }

        int beginRide(int passenger, int from, int to, int ticket) {
            int end = clock + MINUTES_PER_STOP * Math.abs(to - from);
            passengers[passenger].takeRide(from, to, end, ticket);
            if (ticket != NONE) {
                tickets[ticket].useForRide(clock, from);
            }
            return end;
        }

        int findFault(int passenger) {
            Passenger rider = passengers[passenger];
            if (rider.rideFrom == NONE) {
                return NO_FAULT;
            }
            if (rider.rideTicket == NONE) {
                return NO_TICKET;
            }
            Ticket ticket = tickets[rider.rideTicket];
            if (!ticket.inTimeAt(clock)) {
                return NOT_IN_TIME;
            }
            if (!ticket.hasZones(rideZones(rider.rideFrom, rider.rideTo))) {
                return WRONG_ZONES;
            }
            if (ticket.kind == SINGLE && ticket.rides > SINGLE_RIDES) {
                return TOO_MANY_RIDES;
            }
            if (ticket.kind == SHORT && Math.abs(rider.rideTo - ticket.stampStop) > SHORT_STOPS) {
                return TOO_FAR;
            }
            return NO_FAULT;
        }

        boolean canInspect(int passenger) {
            Passenger rider = passengers[passenger];
            return rider.isOnTram(clock) && !rider.inspected && caseCount < MAX_CASES;
        }

        int inspectRide(int passenger) {
            Passenger rider = passengers[passenger];
            int fault = findFault(passenger);
            rider.inspected = true;
            inspectionCount++;
            if (fault != NO_FAULT) {
                cases[caseCount].open(passenger, fault, clock, rideZones(rider.rideFrom, rider.rideTo));
                caseCount++;
            }
            return fault;
        }

        boolean canAppeal(int number) {
            return cases[number].state == OPEN && !cases[number].overdueAt(clock);
        }

        int beginAppeal(int number, int ticket) {
            cases[number].state = APPEALED;
            cases[number].ticket = ticket;
            int appeals = 0;
            for (int i = 0; i < caseCount; i++) {
                appeals += cases[i].state == APPEALED ? 1 : 0;
            }
            return appeals;
        }

        int decisionFor(int number, int ticket) {
            return cases[number].isExcusedBy(tickets[ticket]) ? REDUCED : REJECTED;
        }

        boolean canDecide(int number) {
            return cases[number].state == APPEALED;
        }

        int decideAppeal(int number) {
            Case decided = cases[number];
            decided.state = decisionFor(number, decided.ticket);
            decided.amount = decided.state == REDUCED ? REDUCED_CENTS : decided.amount + REJECTION_CENTS;
            return decided.state;
        }

        boolean canPay(int number) {
            Case payable = cases[number];
            return payable.state != APPEALED
                    && payable.state != PAID
                    && passengers[payable.passenger].money >= payable.costAt(clock);
        }

        int payCase(int number) {
            Case payable = cases[number];
            int cents = payable.costAt(clock);
            passengers[payable.passenger].money -= cents;
            finesPaid += cents;
            payable.state = PAID;
            return cents;
        }

        int sumOfDebts(int passenger) {
            int sum = 0;
            for (int i = 0; i < caseCount; i++) {
                sum += cases[i].passenger == passenger ? cases[i].costAt(clock) : 0;
            }
            return sum;
        }

        int countUnpaid(int passenger) {
            int count = 0;
            for (int i = 0; i < caseCount; i++) {
                count += cases[i].passenger == passenger && cases[i].state != PAID ? 1 : 0;
            }
            return count;
        }

        int sumOfPrices() {
            int sum = 0;
            for (int i = 0; i < ticketCount; i++) {
                sum += tickets[i].price();
            }
            return sum;
        }

        int sumOfMoney() {
            int sum = 0;
            for (int i = 0; i < passengerCount; i++) {
                sum += passengers[i].money;
            }
            return sum;
        }

        int countOddStamps() {
            int count = 0;
            for (int i = 0; i < ticketCount; i++) {
                count += tickets[i].isStamped() == (tickets[i].rides > 0) ? 0 : 1;
            }
            return count;
        }
    }

    /**
     * Reads the input buffer into a state, token by token. After the first error the token stays
     * and nothing more is read into the state, so that a reading method need not stop its caller.
     */
    private static final class Parser {
        static final int END = 0;
        static final int WORD = 1;
        static final int NUMBER = 2;
        static final int SEMICOLON = 3;
        static final int NO_TOKEN = 4;

        static final int SYNTAX = 1;
        static final int RANGE = 2;
        static final int UNKNOWN_NAME = 3;
        static final int DUPLICATE_NAME = 4;
        static final int TOO_MANY = 5;
        static final int NOT_POSSIBLE = 6;

        /** Numbers stop growing here, above every range of the document. */
        static final int HUGE = 100000;

        final State state;
        final byte[] text = new byte[MAX_INPUT];
        int length;
        int error;
        int errorOffset = NONE;
        int token;
        int tokenStart;
        int tokenEnd;
        int number;

        Parser(State target) {
            state = target;
        }

        void addBytes(int word) {
            for (int shift = 24; shift >= 0 && length < MAX_INPUT; shift -= 8) {
                text[length] = (byte) (word >> shift);
                length++;
            }
        }

        void begin() {
            error = 0;
            errorOffset = NONE;
            tokenEnd = 0;
            advance();
        }

        void advance() {
            if (failed()) {
                return;
            }
            tokenStart = tokenEnd;
            while (tokenStart < length && text[tokenStart] == ' ') {
                tokenStart++;
            }
            tokenEnd = tokenStart;
            if (tokenStart >= length) {
                token = END;
            } else if (isLetter(text[tokenStart])) {
                token = WORD;
                while (tokenEnd < length && isLetter(text[tokenEnd])) {
                    tokenEnd++;
                }
            } else if (isDigit(text[tokenStart])) {
                token = NUMBER;
                number = 0;
                while (tokenEnd < length && isDigit(text[tokenEnd])) {
                    number = Math.min(HUGE, number * 10 + text[tokenEnd] - '0');
                    tokenEnd++;
                }
            } else {
                token = text[tokenStart] == ';' ? SEMICOLON : NO_TOKEN;
                tokenEnd = tokenStart + 1;
            }
        }

        static boolean isLetter(int character) {
            return character >= 'a' && character <= 'z';
        }

        static boolean isDigit(int character) {
            return character >= '0' && character <= '9';
        }

        boolean tokenIs(String word) {
            if (token != WORD || tokenEnd - tokenStart != word.length()) {
                return false;
            }
            for (int i = 0; i < word.length(); i++) {
                if (text[tokenStart + i] != word.charAt(i)) {
                    return false;
                }
            }
            return true;
        }

        boolean failed() {
            return error != 0;
        }

        int fail(int code) {
            if (!failed()) {
                error = code;
                errorOffset = tokenStart;
            }
            return NONE;
        }

        void readKeyword(String word) {
            if (!tokenIs(word)) {
                fail(SYNTAX);
            } else {
                advance();
            }
        }

        int readNumber(int low, int high) {
            if (token != NUMBER) {
                return fail(SYNTAX);
            }
            if (number < low || number > high) {
                return fail(RANGE);
            }
            int read = number;
            advance();
            return read;
        }

        /** The lower code 2 goes before code 5, so a zone out of range is left to readNumber. */
        void readZone() {
            if (state.stopCount == MAX_STOPS && token == NUMBER && number <= MAX_ZONE) {
                fail(TOO_MANY);
            }
            int zone = readNumber(0, MAX_ZONE);
            if (!failed()) {
                state.addStop(zone);
            }
        }

        void readLine() {
            readKeyword("line");
            for (int stop = 0; stop < MIN_STOPS; stop++) {
                readZone();
            }
            for (int stop = MIN_STOPS; stop <= MAX_STOPS && token == NUMBER; stop++) {
                readZone();
            }
            readSemicolon(true);
        }

        void readPassengers() {
            readPassenger();
            for (int i = 1; i <= MAX_PASSENGERS && tokenIs("passenger"); i++) {
                readPassenger();
            }
        }

        void readPassenger() {
            if (state.passengerCount == MAX_PASSENGERS && tokenIs("passenger")) {
                fail(TOO_MANY);
            }
            readKeyword("passenger");
            String name = readNewName();
            int cents = readNumber(0, MAX_MONEY);
            if (readSemicolon(true)) {
                state.addPassenger(name, cents);
            }
        }

        String readNewName() {
            if (!isName()) {
                fail(SYNTAX);
            } else if (findPassenger() != NONE) {
                fail(DUPLICATE_NAME);
            }
            if (failed()) {
                return "";
            }
            StringBuilder letters = new StringBuilder();
            for (int i = tokenStart; i < tokenEnd; i++) {
                letters.append((char) text[i]);
            }
            advance();
            return letters.toString();
        }

        int readKnownName() {
            if (!isName()) {
                return fail(SYNTAX);
            }
            int passenger = findPassenger();
            if (passenger == NONE) {
                return fail(UNKNOWN_NAME);
            }
            advance();
            return passenger;
        }

        boolean isName() {
            return token == WORD && tokenEnd - tokenStart <= MAX_NAME;
        }

        int findPassenger() {
            for (int i = 0; i < state.passengerCount; i++) {
                if (tokenIs(state.passengers[i].name)) {
                    return i;
                }
            }
            return NONE;
        }

        int readKind() {
            int kind = SINGLE;
            if (tokenIs("day")) {
                kind = DAY;
            } else if (tokenIs("short")) {
                kind = SHORT;
            } else if (!tokenIs("single")) {
                return fail(SYNTAX);
            }
            advance();
            return kind;
        }

        int readStop(int otherStop) {
            if (token == NUMBER && number == otherStop) {
                fail(RANGE);
            }
            return readNumber(0, state.stopCount - 1);
        }

        int readTicket() {
            return readNumber(0, state.ticketCount - 1);
        }

        int readCase() {
            return readNumber(0, state.caseCount - 1);
        }

        boolean readSemicolon(boolean possible) {
            if (token != SEMICOLON) {
                fail(SYNTAX);
            } else if (!possible) {
                fail(NOT_POSSIBLE);
            } else {
                advance();
            }
            return !failed();
        }

        /** Returns the number of commands, which means nothing after an error. */
        int readCommands() {
            int count = 0;
            while (count < MAX_INPUT && !failed() && token != END) {
                if (tokenIs("buy")) {
                    readBuy();
                } else if (tokenIs("ride")) {
                    readRide();
                } else if (tokenIs("inspect")) {
                    readInspect();
                } else if (tokenIs("wait")) {
                    readWait();
                } else if (tokenIs("appeal")) {
                    readAppeal();
                } else if (tokenIs("decide")) {
                    readDecide();
                } else if (tokenIs("pay")) {
                    readPay();
                } else {
                    fail(SYNTAX);
                }
                count++;
            }
            return count;
        }

        void readBuy() {
            advance();
            int passenger = readKnownName();
            int kind = readKind();
            int zones = readNumber(1, ALL_ZONES);
            if (readSemicolon(!failed() && state.canSell(passenger, kind, zones))) {
                state.sell(passenger, kind, zones);
            }
        }

        void readRide() {
            advance();
            int passenger = readKnownName();
            int from = readStop(NONE);
            int to = readStop(from);
            int ticket = NONE;
            if (tokenIs("with")) {
                advance();
                ticket = readTicket();
            }
            if (readSemicolon(!failed() && state.canBeginRide(passenger, ticket))) {
                state.beginRide(passenger, from, to, ticket);
            }
        }

        void readInspect() {
            advance();
            int passenger = readKnownName();
            if (readSemicolon(!failed() && state.canInspect(passenger))) {
                state.inspectRide(passenger);
            }
        }

        void readWait() {
            advance();
            int minutes = readNumber(1, Math.min(MAX_WAIT, MAX_CLOCK - state.clock));
            if (readSemicolon(true)) {
                state.clock += minutes;
            }
        }

        void readAppeal() {
            advance();
            int appealed = readCase();
            int ticket = readTicket();
            if (readSemicolon(!failed() && state.canAppeal(appealed))) {
                state.beginAppeal(appealed, ticket);
            }
        }

        void readDecide() {
            advance();
            int decided = readCase();
            if (readSemicolon(!failed() && state.canDecide(decided))) {
                state.decideAppeal(decided);
            }
        }

        void readPay() {
            advance();
            int paid = readCase();
            if (readSemicolon(!failed() && state.canPay(paid))) {
                state.payCase(paid);
            }
        }
    }
}

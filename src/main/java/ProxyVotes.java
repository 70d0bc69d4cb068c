import java.util.Arrays;

/** Votes of a committee. ../shared/DOC.md says what every call does. */
public final class ProxyVotes {
    public static final int NO_SUCH = -1, BAD_VALUE = -2, BAD_TEXT = -3, TOO_MANY = -4, NOT_POSSIBLE = -5, NONE = -6;
    public static final int QUORUM = 0, LATE_QUORUM = 1, LATE = 2, LIMIT = 3, CHAIN = 4, CASTING = 5;
    public static final int WAITING = 0, OPEN = 1, TIED = 2, CARRIED = 3, LOST = 4;
    public static final int ABSTAINED = 0, FOR = 1, AGAINST = 2, SILENT = 3, UNHEARD = 4, RECUSED = 5;

    private static final int SETTINGS = 6;
    private static final int[] FIRST_VALUES = {50, 34, 240, 2, 1, 1};
    private static final int[] HIGHEST_VALUES = {100, 100, 600, 6, 1, 1};

    private static final int MOST_MEMBERS = 12;
    private static final int MOST_WEIGHT = 9;
    private static final int LAST_GROUP = 3;
    private static final int MOST_ITEMS = 12;
    private static final int LAST_KIND = 2;
    private static final int ALL_GROUPS = 15;
    private static final int WAYS = 6;
    private static final int MOST_MOVEMENTS = 20;
    private static final int FARTHEST = 600;
    private static final int LAST_MINUTE = 9000;
    private static final int MOST_CHARACTERS = 80;
    private static final int MOST_AT_ONCE = 8;
    private static final int MOST_DIGITS = 3;
    private static final int MOST_UNDO = 6;
    private static final int SLOTS = 2;

    private final Committee now = new Committee();
    // Forecasts try things out on this copy, so that nothing changes.
    private final Committee trial = new Committee();
    private final Hearing hearing = new Hearing();
    private final History history = new History();
    private final Pad pad = new Pad();
    private final Committee[] slots = new Committee[SLOTS];
    private final boolean[] saved = new boolean[SLOTS];
    private final int[] gains = new int[MOST_MEMBERS];
    private final int[] setsOfWeight = new int[MOST_MEMBERS * MOST_WEIGHT + 1];

    public ProxyVotes() {
        for (int slot = 0; slot < SLOTS; slot++) {
            slots[slot] = new Committee();
        }
    }

    // ---- setting up

    public int set(int setting, int value) {
        history.note(now);
        return history.settle(now.changeSetting(setting, value));
    }

    public int member(int weight, int group) {
        history.note(now);
        return history.settle(now.addMember(weight, group));
    }

    public int item(int kind, int groups) {
        history.note(now);
        return history.settle(now.addItem(kind, groups));
    }

    public int chair(int member) {
        history.note(now);
        return history.settle(now.nameChair(member));
    }

    // ---- members

    public int come(int member) {
        history.note(now);
        return history.settle(now.bringIn(member));
    }

    public int go(int member) {
        history.note(now);
        return history.settle(now.sendAway(member));
    }

    public int later(int minute, int member, int comes) {
        history.note(now);
        return history.settle(now.addMovement(minute, member, comes));
    }

    public int proxy(int member, int item, int holder) {
        history.note(now);
        return history.settle(now.nameHolder(member, item, holder));
    }

    public int tell(int member, int item, int choice) {
        history.note(now);
        return history.settle(now.tellChoice(member, item, choice));
    }

    public int recuse(int member, int item, int is) {
        history.note(now);
        return history.settle(now.recuseByHand(member, item, is));
    }

    // ---- votes

    public int open(int item) {
        history.note(now);
        return history.settle(now.openItem(item, hearing));
    }

    public int vote(int member, int choice) {
        history.note(now);
        return history.settle(now.giveVote(member, choice));
    }

    public int close() {
        history.note(now);
        return history.settle(now.closeItem(hearing));
    }

    public int cast(int choice) {
        history.note(now);
        return history.settle(now.breakTie(choice));
    }

    public int pass(int minutes) {
        history.note(now);
        return history.settle(now.letPass(minutes));
    }

    // ---- what there is

    public int ofMember(int member, int what) {
        if (!now.hasMember(member)) {
            return NO_SUCH;
        }
        switch (what) {
            case 0:
                return now.weights[member];
            case 1:
                return now.groups[member];
            case 2:
                return now.isPresent(member) ? 1 : 0;
            case 3:
                return now.holders[member];
            case 4:
                return now.votesOf(member);
            case 5:
                return now.tiesBrokenBy(member);
            default:
                return BAD_VALUE;
        }
    }

    public int ofItem(int item, int what) {
        if (!now.hasItem(item)) {
            return NO_SUCH;
        }
        Item row = now.items[item];
        switch (what) {
            case 0:
                return row.kind;
            case 1:
                return row.touched;
            case 2:
                return row.state;
            case 9:
                return row.breaker;
            case 10:
                return row.timesPutOff;
            case 11:
                hearing.listen(now, row);
                return now.isQuorum(hearing.weightThere(now)) ? 1 : 0;
            default:
                return what >= 3 && what < 3 + WAYS ? sumOf(row, what - 3) : BAD_VALUE;
        }
    }

    public int at(int member, int item, int what) {
        if (!now.hasMember(member) || !now.hasItem(item)) {
            return NO_SUCH;
        }
        Item row = now.items[item];
        hearing.listen(now, row);
        switch (what) {
            case 0:
                return hearing.speakers[member];
            case 1:
                return row.votes[member];
            case 2:
                return row.told[member];
            case 3:
                return hearing.wayOf(now, row, member);
            case 4:
                return row.holders[member];
            case 5:
                return now.isRecused(member, row) ? 1 : 0;
            case 6:
                return hearing.spokenForBy(now, member);
            default:
                return BAD_VALUE;
        }
    }

    public int count(int what) {
        if (what >= 8 && what <= 12) {
            return now.itemsIn(what - 8);
        }
        if (what >= 16 && what < 16 + SETTINGS) {
            return now.settings[what - 16];
        }
        switch (what) {
            case 0:
                return now.minute;
            case 1:
                return now.memberCount;
            case 2:
                return now.itemCount;
            case 3:
                return now.present;
            case 4:
                return now.firstIn(OPEN);
            case 5:
                return now.chairNamed;
            case 6:
                return now.chairOfTheMoment();
            case 7:
                return now.weightOfAll();
            case 13:
                return now.movements.number;
            case 14:
                return pad.length;
            case 15:
                return history.kept;
            default:
                return BAD_VALUE;
        }
    }

    private int sumOf(Item row, int way) {
        if (!row.isPending()) {
            return row.sums[way];
        }
        hearing.listen(now, row);
        hearing.tally(now, row);
        return hearing.sums[way];
    }

    // ---- what if; nothing changes

    public int wouldBe(int item) {
        if (!now.hasItem(item)) {
            return NO_SUCH;
        }
        Item row = now.items[item];
        if (!row.isPending()) {
            return NOT_POSSIBLE;
        }
        hearing.listen(now, row);
        hearing.tally(now, row);
        return hearing.outcome(now, row, 0);
    }

    public int decisive(int item) {
        if (!now.hasItem(item)) {
            return NO_SUCH;
        }
        if (!now.items[item].isPending()) {
            return NOT_POSSIBLE;
        }
        trial.copyFrom(now);
        Item row = trial.items[item];
        hearing.listen(trial, row);
        hearing.tally(trial, row);
        int before = hearing.outcome(trial, row, 0);
        int set = 0;
        for (int member = 0; member < trial.memberCount; member++) {
            if (trial.canVote(member, row) && canTurn(member, row, before)) {
                set |= 1 << member;
            }
        }
        return set;
    }

    public int needed(int item, int what) {
        if (!now.hasItem(item)) {
            return NO_SUCH;
        }
        if (what != 0 && what != 1) {
            return BAD_VALUE;
        }
        if (!now.items[item].isPending()) {
            return NOT_POSSIBLE;
        }
        trial.copyFrom(now);
        Item row = trial.items[item];
        int set = fewestToCarry(row, findGains(row));
        return set == NONE || what == 1 ? set : Integer.bitCount(set);
    }

    public int power(int member) {
        if (!now.hasMember(member)) {
            return NO_SUCH;
        }
        countSetsWithout(member);
        int all = now.weightOfAll();
        int with = now.weights[member];
        int sets = 0;
        for (int weight = 0; weight < setsOfWeight.length; weight++) {
            if (2 * weight <= all && 2 * (weight + with) > all) {
                sets += setsOfWeight[weight];
            }
        }
        return sets;
    }

    public int quorumAt(int item) {
        if (!now.hasItem(item)) {
            return NO_SUCH;
        }
        trial.copyFrom(now);
        Item row = trial.items[item];
        // One turn is the present minute, one LATE, the others are movements.
        for (int turn = 0; turn < MOST_MOVEMENTS + 2; turn++) {
            hearing.listen(trial, row);
            if (trial.isQuorum(hearing.weightThere(trial))) {
                return trial.minute;
            }
            int next = trial.nextTurn();
            if (next == NONE) {
                return NONE;
            }
            trial.moveTo(next);
        }
        return NONE;
    }

    public int bestHolder(int member, int item) {
        if (!now.hasMember(member) || !now.hasItem(item)) {
            return NO_SUCH;
        }
        trial.copyFrom(now);
        Item row = trial.items[item];
        if (trial.isPresent(member) || trial.isRecused(member, row) || row.holders[member] != NONE) {
            return NOT_POSSIBLE;
        }
        int best = NONE;
        int fewest = MOST_MEMBERS + 1;
        for (int holder = 0; holder < trial.memberCount; holder++) {
            if (trial.canVote(holder, row)) {
                trial.holders[member] = holder;
                hearing.listen(trial, row);
                if (hearing.speakers[member] == holder && hearing.loads[holder] < fewest) {
                    best = holder;
                    fewest = hearing.loads[holder];
                }
            }
        }
        return best;
    }

    /** Whether a vote of the member in the trial makes another outcome than the one before. */
    private boolean canTurn(int member, Item row, int before) {
        int given = row.votes[member];
        boolean turned = false;
        for (int choice = ABSTAINED; choice <= AGAINST; choice++) {
            row.votes[member] = choice;
            hearing.tally(trial, row);
            turned |= hearing.outcome(trial, row, 0) != before;
        }
        row.votes[member] = given;
        return turned;
    }

    /** Returns who could still vote; finds what each of them would add, and leaves the sums as they are without. */
    private int findGains(Item row) {
        hearing.listen(trial, row);
        hearing.tally(trial, row);
        int without = hearing.sums[FOR];
        int free = 0;
        for (int member = 0; member < trial.memberCount; member++) {
            if (trial.canVote(member, row) && row.votes[member] == NONE) {
                free |= 1 << member;
                row.votes[member] = FOR;
                hearing.tally(trial, row);
                gains[member] = hearing.sums[FOR] - without;
                row.votes[member] = NONE;
            }
        }
        hearing.tally(trial, row);
        return free;
    }

    /** Going upwards, and only on to smaller sets, finds the lowest mask of the fewest members. */
    private int fewestToCarry(Item row, int free) {
        int best = NONE;
        int fewest = MOST_MEMBERS + 1;
        for (int set = 0; set <= free; set++) {
            int size = Integer.bitCount(set);
            if ((set & ~free) == 0 && size < fewest && hearing.outcome(trial, row, gainOf(set)) == CARRIED) {
                best = set;
                fewest = size;
            }
        }
        return best;
    }

    private int gainOf(int set) {
        int gain = 0;
        for (int member = 0; member < trial.memberCount; member++) {
            if ((set >> member & 1) == 1) {
                gain += gains[member];
            }
        }
        return gain;
    }

    /** Counts the sets of the other members by their weight: each member doubles the sets. */
    private void countSetsWithout(int member) {
        Arrays.fill(setsOfWeight, 0);
        setsOfWeight[0] = 1;
        for (int other = 0; other < now.memberCount; other++) {
            if (other != member) {
                int with = now.weights[other];
                for (int weight = setsOfWeight.length - 1; weight >= with; weight--) {
                    setsOfWeight[weight] += setsOfWeight[weight - with];
                }
            }
        }
    }

    // ---- texts

    public int put(long characters) {
        return pad.append(characters);
    }

    public int wipe() {
        return pad.empty();
    }

    public int fault() {
        return pad.read();
    }

    public int carryOut() {
        if (pad.read() != NONE) {
            return BAD_TEXT;
        }
        history.note(now);
        int carried = 0;
        while (carried < pad.orders && !isError(carry(carried))) {
            carried++;
        }
        pad.empty();
        return history.settle(carried);
    }

    private int carry(int order) {
        int member = pad.members[order];
        int number = pad.numbers[order];
        switch (pad.signs[order]) {
            case '+':
                return now.bringIn(member);
            case '-':
                return now.sendAway(member);
            case 'o':
                return now.openItem(number, hearing);
            case 'v':
                return now.giveVote(member, number);
            case 'c':
                return now.closeItem(hearing);
            case 'x':
                return now.breakTie(number);
            case 'm':
                return now.letPass(number);
            default:
                return BAD_TEXT;
        }
    }

    // ---- undo, saving

    public int undo() {
        return history.takeBack(now);
    }

    public int save(int slot) {
        if (slot < 0 || slot >= SLOTS) {
            return BAD_VALUE;
        }
        slots[slot].copyFrom(now);
        saved[slot] = true;
        return now.minute;
    }

    public int restore(int slot) {
        if (slot < 0 || slot >= SLOTS) {
            return BAD_VALUE;
        }
        if (!saved[slot]) {
            return NOT_POSSIBLE;
        }
        history.note(now);
        now.copyFrom(slots[slot]);
        return history.settle(now.minute);
    }

    private static boolean isError(int answer) {
        return answer >= NOT_POSSIBLE && answer <= NO_SUCH;
    }

    private static boolean isChoice(int choice) {
        return choice >= ABSTAINED && choice <= AGAINST;
    }

    /** One item, with what the members have done about it. */
    private static final class Item {
        private int kind;
        private int touched;
        private int state;
        private int recusedByHand;
        private int breaker;
        private int timesPutOff;
        private final int[] sums = new int[WAYS];
        private final int[] votes = new int[MOST_MEMBERS];
        private final int[] told = new int[MOST_MEMBERS];
        private final int[] holders = new int[MOST_MEMBERS];

        private void begin(int newKind, int newTouched) {
            kind = newKind;
            touched = newTouched;
            state = WAITING;
            recusedByHand = 0;
            breaker = NONE;
            timesPutOff = 0;
            Arrays.fill(sums, 0);
            Arrays.fill(votes, NONE);
            Arrays.fill(told, NONE);
            Arrays.fill(holders, NONE);
        }

        private void copyFrom(Item other) {
            kind = other.kind;
            touched = other.touched;
            state = other.state;
            recusedByHand = other.recusedByHand;
            breaker = other.breaker;
            timesPutOff = other.timesPutOff;
            System.arraycopy(other.sums, 0, sums, 0, WAYS);
            System.arraycopy(other.votes, 0, votes, 0, MOST_MEMBERS);
            System.arraycopy(other.told, 0, told, 0, MOST_MEMBERS);
            System.arraycopy(other.holders, 0, holders, 0, MOST_MEMBERS);
        }

        private boolean isPending() {
            return state == WAITING || state == OPEN;
        }

        private void putOff() {
            state = WAITING;
            timesPutOff++;
            Arrays.fill(votes, NONE);
        }
    }

    /** The movements that wait, in the order in which they were told. */
    private static final class Movements {
        private int number;
        private final int[] minutes = new int[MOST_MOVEMENTS];
        private final int[] movers = new int[MOST_MOVEMENTS];
        private final int[] comings = new int[MOST_MOVEMENTS];

        private void append(int minute, int member, int comes) {
            minutes[number] = minute;
            movers[number] = member;
            comings[number] = comes;
            number++;
        }

        /** The place of the next movement to happen: of several in a minute, the one told first. */
        private int next() {
            int next = NONE;
            for (int place = 0; place < number; place++) {
                if (next == NONE || minutes[place] < minutes[next]) {
                    next = place;
                }
            }
            return next;
        }

        private void drop(int place) {
            int after = number - place - 1;
            System.arraycopy(minutes, place + 1, minutes, place, after);
            System.arraycopy(movers, place + 1, movers, place, after);
            System.arraycopy(comings, place + 1, comings, place, after);
            number--;
        }

        private void copyFrom(Movements other) {
            number = other.number;
            System.arraycopy(other.minutes, 0, minutes, 0, MOST_MOVEMENTS);
            System.arraycopy(other.movers, 0, movers, 0, MOST_MOVEMENTS);
            System.arraycopy(other.comings, 0, comings, 0, MOST_MOVEMENTS);
        }
    }

    /** Everything that undo brings back, and that a slot keeps. Its changes record nothing. */
    private static final class Committee {
        private int minute;
        private int memberCount;
        private int itemCount;
        private int present;
        private int chairNamed = NONE;
        private final int[] settings = new int[SETTINGS];
        private final int[] weights = new int[MOST_MEMBERS];
        private final int[] groups = new int[MOST_MEMBERS];
        private final int[] holders = new int[MOST_MEMBERS];
        private final Item[] items = new Item[MOST_ITEMS];
        private final Movements movements = new Movements();

        private Committee() {
            System.arraycopy(FIRST_VALUES, 0, settings, 0, SETTINGS);
            for (int item = 0; item < MOST_ITEMS; item++) {
                items[item] = new Item();
            }
        }

        private void copyFrom(Committee other) {
            minute = other.minute;
            memberCount = other.memberCount;
            itemCount = other.itemCount;
            present = other.present;
            chairNamed = other.chairNamed;
            System.arraycopy(other.settings, 0, settings, 0, SETTINGS);
            System.arraycopy(other.weights, 0, weights, 0, MOST_MEMBERS);
            System.arraycopy(other.groups, 0, groups, 0, MOST_MEMBERS);
            System.arraycopy(other.holders, 0, holders, 0, MOST_MEMBERS);
            for (int item = 0; item < itemCount; item++) {
                items[item].copyFrom(other.items[item]);
            }
            movements.copyFrom(other.movements);
        }

        private boolean hasMember(int member) {
            return member >= 0 && member < memberCount;
        }

        private boolean hasItem(int item) {
            return item >= 0 && item < itemCount;
        }

        private boolean isPresent(int member) {
            return (present >> member & 1) == 1;
        }

        private boolean isRecused(int member, Item row) {
            return (row.touched >> groups[member] & 1) == 1 || (row.recusedByHand >> member & 1) == 1;
        }

        private boolean canVote(int member, Item row) {
            return isPresent(member) && !isRecused(member, row);
        }

        private int holderFor(int member, Item row) {
            return row.holders[member] != NONE ? row.holders[member] : holders[member];
        }

        private int weightOfAll() {
            int weight = 0;
            for (int member = 0; member < memberCount; member++) {
                weight += weights[member];
            }
            return weight;
        }

        private boolean isQuorum(int weight) {
            int percent = minute >= settings[LATE] ? settings[LATE_QUORUM] : settings[QUORUM];
            return 100 * weight >= weightOfAll() * percent;
        }

        private int chairOfTheMoment() {
            if (chairNamed != NONE && isPresent(chairNamed)) {
                return chairNamed;
            }
            for (int member = 0; member < memberCount; member++) {
                if (isPresent(member)) {
                    return member;
                }
            }
            return NONE;
        }

        private int firstIn(int state) {
            for (int item = 0; item < itemCount; item++) {
                if (items[item].state == state) {
                    return item;
                }
            }
            return NONE;
        }

        private int itemsIn(int state) {
            int number = 0;
            for (int item = 0; item < itemCount; item++) {
                if (items[item].state == state) {
                    number++;
                }
            }
            return number;
        }

        private int votesOf(int member) {
            int number = 0;
            for (int item = 0; item < itemCount; item++) {
                if (items[item].votes[member] != NONE) {
                    number++;
                }
            }
            return number;
        }

        private int tiesBrokenBy(int member) {
            int number = 0;
            for (int item = 0; item < itemCount; item++) {
                if (items[item].breaker == member) {
                    number++;
                }
            }
            return number;
        }

        private int changeSetting(int setting, int value) {
            if (setting < 0 || setting >= SETTINGS || value < 0 || value > HIGHEST_VALUES[setting]) {
                return BAD_VALUE;
            }
            int before = settings[setting];
            settings[setting] = value;
            return before;
        }

        private int addMember(int weight, int group) {
            if (weight < 1 || weight > MOST_WEIGHT || group < 0 || group > LAST_GROUP) {
                return BAD_VALUE;
            }
            if (memberCount >= MOST_MEMBERS) {
                return TOO_MANY;
            }
            weights[memberCount] = weight;
            groups[memberCount] = group;
            holders[memberCount] = NONE;
            if (memberCount == 0) {
                chairNamed = 0;
            }
            return memberCount++;
        }

        private int addItem(int kind, int touched) {
            if (kind < 0 || kind > LAST_KIND || touched < 0 || touched > ALL_GROUPS) {
                return BAD_VALUE;
            }
            if (itemCount >= MOST_ITEMS) {
                return TOO_MANY;
            }
            items[itemCount].begin(kind, touched);
            return itemCount++;
        }

        private int nameChair(int member) {
            if (!hasMember(member)) {
                return NO_SUCH;
            }
            int before = chairNamed;
            chairNamed = member;
            return before;
        }

        private int bringIn(int member) {
            if (!hasMember(member)) {
                return NO_SUCH;
            }
            if (isPresent(member)) {
                return NOT_POSSIBLE;
            }
            present |= 1 << member;
            return Integer.bitCount(present);
        }

        private int sendAway(int member) {
            if (!hasMember(member)) {
                return NO_SUCH;
            }
            if (!isPresent(member)) {
                return NOT_POSSIBLE;
            }
            present &= ~(1 << member);
            return Integer.bitCount(present);
        }

        private int addMovement(int when, int member, int comes) {
            if (!hasMember(member)) {
                return NO_SUCH;
            }
            if (when <= minute || when > minute + FARTHEST || comes < 0 || comes > 1) {
                return BAD_VALUE;
            }
            if (movements.number >= MOST_MOVEMENTS) {
                return TOO_MANY;
            }
            movements.append(when, member, comes);
            return movements.number;
        }

        private int nameHolder(int member, int item, int holder) {
            boolean forAll = item == NONE;
            boolean anItem = forAll || hasItem(item);
            boolean aHolder = holder == NONE || hasMember(holder) && holder != member;
            if (!hasMember(member) || !anItem || !aHolder) {
                return NO_SUCH;
            }
            int[] row = forAll ? holders : items[item].holders;
            int before = row[member];
            row[member] = holder;
            return before;
        }

        private int tellChoice(int member, int item, int choice) {
            if (!hasMember(member) || !hasItem(item)) {
                return NO_SUCH;
            }
            if (choice != NONE && !isChoice(choice)) {
                return BAD_VALUE;
            }
            if (!items[item].isPending()) {
                return NOT_POSSIBLE;
            }
            int before = items[item].told[member];
            items[item].told[member] = choice;
            return before;
        }

        private int recuseByHand(int member, int item, int is) {
            if (!hasMember(member) || !hasItem(item)) {
                return NO_SUCH;
            }
            if (is != 0 && is != 1) {
                return BAD_VALUE;
            }
            Item row = items[item];
            if (!row.isPending()) {
                return NOT_POSSIBLE;
            }
            row.recusedByHand = row.recusedByHand & ~(1 << member) | is << member;
            return isRecused(member, row) ? 1 : 0;
        }

        private int openItem(int item, Hearing hearing) {
            if (!hasItem(item)) {
                return NO_SUCH;
            }
            Item row = items[item];
            hearing.listen(this, row);
            int there = hearing.weightThere(this);
            if (row.state != WAITING || firstIn(OPEN) != NONE || !isQuorum(there)) {
                return NOT_POSSIBLE;
            }
            row.state = OPEN;
            return there;
        }

        private int giveVote(int member, int choice) {
            if (!hasMember(member)) {
                return NO_SUCH;
            }
            if (!isChoice(choice)) {
                return BAD_VALUE;
            }
            int item = firstIn(OPEN);
            if (item == NONE || !canVote(member, items[item])) {
                return NOT_POSSIBLE;
            }
            int before = items[item].votes[member];
            items[item].votes[member] = choice;
            return before;
        }

        private int closeItem(Hearing hearing) {
            int item = firstIn(OPEN);
            if (item == NONE) {
                return NOT_POSSIBLE;
            }
            Item row = items[item];
            hearing.listen(this, row);
            if (isQuorum(hearing.weightThere(this))) {
                hearing.tally(this, row);
                System.arraycopy(hearing.sums, 0, row.sums, 0, WAYS);
                row.state = hearing.outcome(this, row, 0);
            } else {
                row.putOff();
            }
            return row.state;
        }

        private int breakTie(int choice) {
            if (choice != FOR && choice != AGAINST) {
                return BAD_VALUE;
            }
            int item = firstIn(TIED);
            int breaker = chairOfTheMoment();
            if (item == NONE || breaker == NONE || isRecused(breaker, items[item])) {
                return NOT_POSSIBLE;
            }
            items[item].state = choice == FOR ? CARRIED : LOST;
            items[item].breaker = breaker;
            return items[item].state;
        }

        private int letPass(int minutes) {
            if (minutes < 1 || minutes > FARTHEST) {
                return BAD_VALUE;
            }
            if (minute + minutes > LAST_MINUTE) {
                return NOT_POSSIBLE;
            }
            moveTo(minute + minutes);
            return minute;
        }

        private void moveTo(int until) {
            for (int left = movements.number; left > 0; left--) {
                int next = movements.next();
                if (next == NONE || movements.minutes[next] > until) {
                    break;
                }
                int mover = 1 << movements.movers[next];
                present = movements.comings[next] == 1 ? present | mover : present & ~mover;
                movements.drop(next);
            }
            minute = until;
        }

        /** The next minute in which the quorum could come to be without a call, NONE if there is none. */
        private int nextTurn() {
            int late = settings[LATE] > minute ? settings[LATE] : NONE;
            int next = movements.next();
            if (next == NONE) {
                return late;
            }
            int movement = movements.minutes[next];
            return late == NONE ? movement : Math.min(late, movement);
        }
    }

    /** Who speaks for whom for one item, and how the members count for it. Its rows are used again by each call. */
    private static final class Hearing {
        private final int[] speakers = new int[MOST_MEMBERS];
        private final int[] loads = new int[MOST_MEMBERS];
        private final int[] sums = new int[WAYS];

        /** Finds the speakers. Votes make no difference to them, so one call serves many tallies. */
        private void listen(Committee committee, Item row) {
            Arrays.fill(speakers, NONE);
            Arrays.fill(loads, 0);
            for (int member = 0; member < committee.memberCount; member++) {
                if (!committee.isRecused(member, row)) {
                    speakers[member] = committee.isPresent(member) ? member : takenUp(committee, row, member);
                }
            }
        }

        /** Asked in the order of the members, so that the lowest numbers find a place below the limit. */
        private int takenUp(Committee committee, Item row, int member) {
            int end = endOfWay(committee, row, member);
            if (end == NONE || loads[end] >= committee.settings[LIMIT]) {
                return NONE;
            }
            loads[end]++;
            return end;
        }

        /** A way that has gone on for as many steps as there can be members goes in a circle of absent ones. */
        private int endOfWay(Committee committee, Item row, int member) {
            int steps = committee.settings[CHAIN] == 0 ? 1 : MOST_MEMBERS;
            int reached = member;
            for (int step = 0; step < steps; step++) {
                reached = committee.holderFor(reached, row);
                if (reached == NONE) {
                    return NONE;
                }
                if (committee.isPresent(reached)) {
                    return committee.isRecused(reached, row) ? NONE : reached;
                }
            }
            return NONE;
        }

        private int spokenForBy(Committee committee, int speaker) {
            int set = 0;
            for (int member = 0; member < committee.memberCount; member++) {
                if (speakers[member] == speaker && !committee.isPresent(member)) {
                    set |= 1 << member;
                }
            }
            return set;
        }

        private int weightThere(Committee committee) {
            int weight = 0;
            for (int member = 0; member < committee.memberCount; member++) {
                if (committee.isPresent(member) || speakers[member] != NONE) {
                    weight += committee.weights[member];
                }
            }
            return weight;
        }

        private int wayOf(Committee committee, Item row, int member) {
            if (committee.isRecused(member, row)) {
                return RECUSED;
            }
            if (row.votes[member] != NONE) {
                return row.votes[member];
            }
            if (committee.isPresent(member)) {
                return SILENT;
            }
            int speaker = speakers[member];
            if (speaker == NONE) {
                return UNHEARD;
            }
            if (row.told[member] != NONE) {
                return row.told[member];
            }
            return row.votes[speaker] != NONE ? row.votes[speaker] : SILENT;
        }

        private void tally(Committee committee, Item row) {
            Arrays.fill(sums, 0);
            for (int member = 0; member < committee.memberCount; member++) {
                sums[wayOf(committee, row, member)] += committee.weights[member];
            }
        }

        /** The state that the sums make, with some more weight for the item. */
        private int outcome(Committee committee, Item row, int more) {
            int inFavour = sums[FOR] + more;
            int against = sums[AGAINST];
            switch (row.kind) {
                case 0:
                    if (inFavour == against && committee.settings[CASTING] == 1) {
                        return TIED;
                    }
                    return inFavour > against ? CARRIED : LOST;
                case 1:
                    return inFavour > 0 && 3 * inFavour >= 2 * (inFavour + against) ? CARRIED : LOST;
                default:
                    return inFavour > 0 && sums[ABSTAINED] == 0 && against == 0 ? CARRIED : LOST;
            }
        }
    }

    /** The states before the latest changes, in a ring. */
    private static final class History {
        // One row more than can be undone: it takes the state before a call that may still fail.
        private final Committee[] states = new Committee[MOST_UNDO + 1];
        private int spare;
        private int kept;

        private History() {
            for (int place = 0; place < states.length; place++) {
                states[place] = new Committee();
            }
        }

        private void note(Committee before) {
            states[spare].copyFrom(before);
        }

        /** Keeps what was noted if the call did not fail; passes the call's answer on. */
        private int settle(int answer) {
            if (!isError(answer)) {
                spare = spare == MOST_UNDO ? 0 : spare + 1;
                kept = Math.min(kept + 1, MOST_UNDO);
            }
            return answer;
        }

        private int takeBack(Committee committee) {
            if (kept == 0) {
                return NOT_POSSIBLE;
            }
            spare = spare == 0 ? MOST_UNDO : spare - 1;
            committee.copyFrom(states[spare]);
            kept--;
            return kept;
        }
    }

    /** The text of orders, and the orders that were read from it last. */
    private static final class Pad {
        private final char[] text = new char[MOST_CHARACTERS];
        private int length;
        private int place;
        private int orders;
        private final char[] signs = new char[MOST_CHARACTERS];
        private final int[] members = new int[MOST_CHARACTERS];
        private final int[] numbers = new int[MOST_CHARACTERS];

        private int append(long characters) {
            int more = 0;
            // A code of 0 with something above it is out of range as any other.
            for (long rest = characters; rest != 0 && more < MOST_AT_ONCE; rest >>>= 8) {
                long code = rest & 255;
                if (code < 33 || code > 126) {
                    return BAD_VALUE;
                }
                more++;
            }
            if (more == 0) {
                return BAD_VALUE;
            }
            if (length + more > MOST_CHARACTERS) {
                return TOO_MANY;
            }
            length += more;
            for (int back = 0; back < more; back++) {
                text[length - 1 - back] = (char) (characters >>> 8 * back & 255);
            }
            return length;
        }

        private int empty() {
            int before = length;
            length = 0;
            return before;
        }

        /** Reads all orders, and returns the fault, NONE if there is none. */
        private int read() {
            place = 0;
            orders = 0;
            for (int order = 0; order < MOST_CHARACTERS && readOrder(order); order++) {
                orders++;
                if (place >= length) {
                    return NONE;
                }
                if (text[place] != ';') {
                    return place;
                }
                place++;
            }
            return place;
        }

        /** If it cannot read an order, it stays at the character that cannot stand there. */
        private boolean readOrder(int order) {
            char sign = ahead();
            if (!isSign(sign)) {
                return false;
            }
            signs[order] = sign;
            place++;
            switch (sign) {
                case '+':
                case '-':
                    return readMember(order);
                case 'o':
                case 'm':
                    return readNumber(order);
                case 'v':
                    return readMember(order) && readChoice(order, '0');
                case 'x':
                    return readChoice(order, '1');
                default:
                    return true;
            }
        }

        private boolean readMember(int order) {
            char letter = ahead();
            if (letter < 'A' || letter > 'L') {
                return false;
            }
            members[order] = letter - 'A';
            place++;
            return true;
        }

        private boolean readChoice(int order, char lowest) {
            char digit = ahead();
            if (digit < lowest || digit > '2') {
                return false;
            }
            numbers[order] = digit - '0';
            place++;
            return true;
        }

        private boolean readNumber(int order) {
            if (!isDigit(ahead())) {
                return false;
            }
            int number = ahead() - '0';
            place++;
            // A digit that this leaves, behind a 0 or behind the third one, is no ";" and so the fault.
            for (int digits = 1; digits < MOST_DIGITS && number > 0 && isDigit(ahead()); digits++) {
                number = 10 * number + ahead() - '0';
                place++;
            }
            numbers[order] = number;
            return true;
        }

        /** The next character, 0 at the end. */
        private char ahead() {
            return place < length ? text[place] : 0;
        }

        private static boolean isDigit(char sign) {
            return sign >= '0' && sign <= '9';
        }

        private static boolean isSign(char sign) {
            return sign == '+' || sign == '-' || sign == 'o' || sign == 'v' || sign == 'c' || sign == 'x'
                || sign == 'm';
        }
    }
}

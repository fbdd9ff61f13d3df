import java.util.NoSuchElementException;

/** Squads from auctions, matches by raids, statistics, values of states and a league. */
public final class Raidline {
    private static final int NOBODY = -1;
    private static final int RAIDER_OUT = -1;
    private static final int MOST_PLAYERS = 40;
    private static final int MOST_SQUADS = 4;
    private static final int MOST_IN_SQUAD = 12;
    private static final int FULL_PURSE = 200;
    private static final int BID_STEP = 5;
    private static final int TOUCH_SECONDS = 3;
    private static final int QUICK_SPEED = 7;
    private static final int BONUS_SECONDS = 4;
    private static final int STRUGGLE_SECONDS = 5;
    private static final int RETURN_SECONDS = 2;
    private static final int MOST_IN_STRUGGLE = 3;
    private static final int MOST_CHANGES = 5;
    private static final int YELLOW_RAIDS = 4;
    private static final int FOR_THE_MATCH = -1;
    private static final int ALL_OUT_POINTS = 2;
    private static final int SUPER_RAID_POINTS = 3;
    private static final int MOST_RAIDS_LEFT = 12;

    private final Roster roster;
    private final Clubs clubs;
    private final Auction auction;
    private final Edition rules;
    private final Match match;
    private final Raid raid;
    private final Statistics statistics;
    private final Values values;

    public Raidline() {
        roster = new Roster();
        clubs = new Clubs();
        auction = new Auction();
        rules = new Edition();
        match = new Match();
        raid = new Raid();
        statistics = new Statistics();
        values = new Values();
    }

    // Players and squads.

    public int player(int reach, int speed, int grip, char sort) throws IllegalArgumentException, IllegalStateException {
        if (!isAbility(reach) || !isAbility(speed) || !isAbility(grip) || baseOf(sort) == 0) {
            throw new IllegalArgumentException();
        }
        if (roster.count >= MOST_PLAYERS) {
            throw new IllegalStateException();
        }
        return roster.enter(reach, speed, grip, baseOf(sort));
    }

    public int squad() throws IllegalStateException {
        if (clubs.count >= MOST_SQUADS) {
            throw new IllegalStateException();
        }
        return clubs.enter();
    }

    private void needPlayer(int player) throws IndexOutOfBoundsException {
        if (player < 0 || player >= roster.count) {
            throw new IndexOutOfBoundsException();
        }
    }

    private void needSquad(int squad) throws IndexOutOfBoundsException {
        if (squad < 0 || squad >= clubs.count) {
            throw new IndexOutOfBoundsException();
        }
    }

    private static boolean isAbility(int number) {
        return number >= 1 && number <= 9;
    }

    /** The base by sorts, 0 where there is no such sort. */
    private static int baseOf(char sort) {
        if (sort == 'a') {
            return 30;
        }
        if (sort == 'b') {
            return 20;
        }
        return sort == 'c' ? 10 : 0;
    }

    // Auctions.

    public int putUp(int player) throws IndexOutOfBoundsException, UnsupportedOperationException, IllegalStateException {
        needPlayer(player);
        if (roster.squads.get(player) != NOBODY || match.isOn) {
            throw new UnsupportedOperationException();
        }
        if (auction.isOpen()) {
            throw new IllegalStateException();
        }
        auction.open(player);
        return roster.bases.get(player);
    }

    public int bid(int squad, int price) throws IndexOutOfBoundsException, IllegalStateException, IllegalArgumentException, UnsupportedOperationException {
        needSquad(squad);
        if (!auction.isOpen()) {
            throw new IllegalStateException();
        }
        if (price < lowestBid()) {
            throw new IllegalArgumentException();
        }
        if (auction.bidder == squad || !canTake(squad, price)) {
            throw new UnsupportedOperationException();
        }
        auction.take(squad, price);
        return auction.bids;
    }

    public int match(int squad) throws IndexOutOfBoundsException, IllegalStateException, UnsupportedOperationException {
        needSquad(squad);
        if (!auction.isOpen() || auction.bids == 0) {
            throw new IllegalStateException();
        }
        if (!mayMatch(squad) || !canTake(squad, auction.price)) {
            throw new UnsupportedOperationException();
        }
        int price = auction.price;
        clubs.matched.set(squad, 1);
        sell(auction.player, squad, price);
        auction.close();
        return price;
    }

    public int knockDown() throws IllegalStateException {
        if (!auction.isOpen()) {
            throw new IllegalStateException();
        }
        int squad = auction.bidder;
        if (squad != NOBODY) {
            sell(auction.player, squad, auction.price);
        }
        auction.close();
        return squad;
    }

    public int squadOf(int player) throws IndexOutOfBoundsException {
        needPlayer(player);
        return roster.squads.get(player);
    }

    public int purse(int squad) throws IndexOutOfBoundsException {
        needSquad(squad);
        return clubs.purses.get(squad);
    }

    public int season() throws IllegalStateException {
        if (match.isOn || auction.isOpen()) {
            throw new IllegalStateException();
        }
        clubs.startAnew();
        return roster.release();
    }

    private int lowestBid() {
        return auction.bids == 0 ? roster.bases.get(auction.player) : auction.price + BID_STEP;
    }

    private boolean canTake(int squad, int price) {
        return roster.sizeOf(squad) < MOST_IN_SQUAD && price <= clubs.purses.get(squad);
    }

    private boolean mayMatch(int squad) {
        return roster.former.get(auction.player) == squad && auction.bidder != squad && clubs.matched.get(squad) == 0;
    }

    private void sell(int player, int squad, int price) {
        roster.squads.set(player, squad);
        roster.prices.set(player, price);
        clubs.purses.add(squad, -price);
    }

    // Editions and matches.

    public int edition(int onMat, int bonusFrom, boolean isRevived, int raids) throws IllegalArgumentException, IllegalStateException {
        if (onMat < 3 || onMat > 7 || bonusFrom < 1 || bonusFrom > 7 || raids < 2 || raids > 20 || (raids & 1) != 0) {
            throw new IllegalArgumentException();
        }
        if (match.isOn) {
            throw new IllegalStateException();
        }
        int before = rules.standing;
        rules.change(onMat, bonusFrom, isRevived, raids);
        return before;
    }

    public int begin(int squad, int other, boolean mustBeWon) throws IndexOutOfBoundsException, IllegalArgumentException, UnsupportedOperationException, IllegalStateException {
        needSquad(squad);
        needSquad(other);
        if (squad == other) {
            throw new IllegalArgumentException();
        }
        if (roster.sizeOf(squad) < rules.standing || roster.sizeOf(other) < rules.standing) {
            throw new UnsupportedOperationException();
        }
        if (match.isOn || auction.isOpen()) {
            throw new IllegalStateException();
        }
        match.start(mustBeWon, rules.half);
        match.first.lineUp(roster, squad, rules.standing);
        match.other.lineUp(roster, other, rules.standing);
        raid.forget();
        return match.begun;
    }

    public int turn() throws IllegalStateException {
        if (!match.isOn) {
            throw new IllegalStateException();
        }
        return match.sideInTurn();
    }

    public int raids() {
        return match.raidsOver;
    }

    public int points(int side) throws IllegalArgumentException {
        needSide(side);
        return match.sideAt(side).points;
    }

    public int onMat(int side) throws IllegalArgumentException, IllegalStateException {
        return playingSide(side).mat.count;
    }

    public int matAt(int side, int index) throws IllegalArgumentException, IllegalStateException, NoSuchElementException {
        return present(playingSide(side).mat.at(index));
    }

    public int outAt(int side, int index) throws IllegalArgumentException, IllegalStateException, NoSuchElementException {
        return present(playingSide(side).out.at(index));
    }

    public int benchAt(int side, int index) throws IllegalArgumentException, IllegalStateException, NoSuchElementException {
        return present(playingSide(side).bench.at(index));
    }

    public boolean goesOn() {
        return match.isOn;
    }

    private static void needSide(int side) throws IllegalArgumentException {
        if (side != 0 && side != 1) {
            throw new IllegalArgumentException();
        }
    }

    private Side playingSide(int side) throws IllegalArgumentException, IllegalStateException {
        needSide(side);
        if (!match.isOn) {
            throw new IllegalStateException();
        }
        return match.sideAt(side);
    }

    private static int present(int player) throws NoSuchElementException {
        if (player == NOBODY) {
            throw new NoSuchElementException();
        }
        return player;
    }

    // Raids.

    public boolean raid(int player) throws IndexOutOfBoundsException, IllegalStateException, UnsupportedOperationException {
        needPlayer(player);
        needPause();
        if (!match.raiders().mat.has(player)) {
            throw new UnsupportedOperationException();
        }
        raid.start(player, match.defenders().mat.count, match.raiders().emptyRaids == 2);
        return raid.isDoOrDie;
    }

    public int touch(int player, boolean isReal, boolean isCalled) throws IndexOutOfBoundsException, IllegalStateException, UnsupportedOperationException {
        needPlayer(player);
        needRaid();
        if (!match.defenders().mat.has(player) || raid.isTouched(player)) {
            throw new UnsupportedOperationException();
        }
        int seconds = roster.speeds.get(raid.raider) >= QUICK_SPEED ? TOUCH_SECONDS - 1 : TOUCH_SECONDS;
        if (!raid.hasBreathFor(seconds)) {
            loseRaider();
            return RAIDER_OUT;
        }
        raid.markTold(player, isReal, isCalled);
        return raid.spend(seconds);
    }

    public int bonus() throws IllegalStateException, UnsupportedOperationException {
        needRaid();
        if (raid.bonus != 0 || raid.stood < rules.bonusFrom) {
            throw new UnsupportedOperationException();
        }
        if (!raid.hasBreathFor(BONUS_SECONDS)) {
            loseRaider();
            return RAIDER_OUT;
        }
        raid.bonus = 1;
        match.raiders().points++;
        statistics.raidPoints.add(raid.raider, 1);
        return raid.spend(BONUS_SECONDS);
    }

    public int struggle(int defenders) throws IllegalStateException, IllegalArgumentException {
        needRaid();
        Line mat = match.defenders().mat;
        if (defenders <= 0 || defenders >= 1 << mat.count || Integer.bitCount(defenders) > MOST_IN_STRUGGLE) {
            throw new IllegalArgumentException();
        }
        if (!raid.hasBreathFor(STRUGGLE_SECONDS)) {
            loseRaider();
            return RAIDER_OUT;
        }
        if (roster.raidingStrength(raid.raider) < holdingStrength(defenders, mat)) {
            creditTacklers(defenders, mat);
            loseRaider();
            return RAIDER_OUT;
        }
        for (int i = 0; i < mat.count; i++) {
            if ((defenders >> i & 1) != 0) {
                raid.markHeld(mat.at(i));
            }
        }
        return raid.spend(STRUGGLE_SECONDS);
    }

    public int stepOut(int player) throws IndexOutOfBoundsException, IllegalStateException, UnsupportedOperationException {
        needPlayer(player);
        needRaid();
        Side defenders = match.defenders();
        if (!defenders.mat.has(player)) {
            throw new UnsupportedOperationException();
        }
        defenders.goOut(player);
        raid.steps++;
        match.raiders().points++;
        return defenders.mat.count;
    }

    public int comeBack() throws IllegalStateException {
        needRaid();
        if (!raid.hasBreathFor(RETURN_SECONDS)) {
            loseRaider();
            return raid.brought();
        }
        bringHome();
        return raid.brought();
    }

    private void needRaid() throws IllegalStateException {
        if (!raid.isOn) {
            throw new IllegalStateException();
        }
    }

    /** A pause is the time between raids, while a match goes on. */
    private void needPause() throws IllegalStateException {
        if (!match.isOn || raid.isOn) {
            throw new IllegalStateException();
        }
    }

    private int holdingStrength(int defenders, Line mat) {
        int strength = 2 * (Integer.bitCount(defenders) - 1);
        for (int i = 0; i < mat.count; i++) {
            if ((defenders >> i & 1) != 0) {
                strength += roster.grips.get(mat.at(i));
            }
        }
        return strength;
    }

    private void creditTacklers(int defenders, Line mat) {
        for (int i = 0; i < mat.count; i++) {
            if ((defenders >> i & 1) != 0) {
                statistics.tacklePoints.add(mat.at(i), raid.tacklePoints());
            }
        }
    }

    /** Ends the raid of a raider who is caught or out of breath. */
    private void loseRaider() {
        Side raiders = match.raiders();
        raiders.goOut(raid.raider);
        raiders.emptyRaids = 0;
        match.defenders().points += raid.tacklePoints();
        closeRaid(raid.steps, 1, raid.brought() + raid.tacklePoints(), false);
    }

    /** Ends the raid of a raider who returns. */
    private void bringHome() {
        Side raiders = match.raiders();
        raid.isReturned = true;
        takeTouched(raiders, match.defenders());
        if (raid.touches + raid.bonus >= SUPER_RAID_POINTS) {
            statistics.superRaids.add(raid.raider, 1);
        }
        if (raid.brought() > 0) {
            raiders.emptyRaids = 0;
            closeRaid(raid.touches + raid.steps, 0, raid.brought(), false);
        } else if (raid.isDoOrDie) {
            raiders.emptyRaids = 0;
            raiders.goOut(raid.raider);
            match.defenders().points++;
            closeRaid(0, 1, 1, true);
        } else {
            raiders.emptyRaids++;
            closeRaid(0, 0, 0, true);
        }
    }

    private void takeTouched(Side raiders, Side defenders) {
        for (int player = 0; player < roster.count; player++) {
            if (raid.isCalled(player) && defenders.goOut(player)) {
                raid.touches++;
            }
        }
        raiders.points += raid.touches;
        statistics.raidPoints.add(raid.raider, raid.touches);
    }

    /** What follows each raid: revivals, the end of yellow cards, all outs, the end of the match. */
    private void closeRaid(int defendersOut, int raidersOut, int points, boolean isEmpty) {
        Side raiders = match.raiders();
        Side defenders = match.defenders();
        if (rules.isRevived) {
            raiders.revive(defendersOut);
            defenders.revive(raidersOut);
        }
        raid.isOn = false;
        match.raidsOver++;
        endSittings();
        int allOuts = allOut(match.first, match.other) + allOut(match.other, match.first);
        raid.isAllOut = allOuts > 0;
        statistics.record(raid.raider, points + allOuts, isEmpty);
        if (match.isOn && match.isDecided()) {
            match.isOn = false;
        }
        if (!match.isOn) {
            clubs.enterResult(match.first, match.other);
        }
    }

    private void endSittings() {
        for (int player = 0; player < roster.count; player++) {
            int left = match.sittings.get(player);
            if (left > 0) {
                match.sittings.set(player, left - 1);
            }
            if (left == 1) {
                match.sideOfSquad(roster.squads.get(player)).out.append(player);
            }
        }
    }

    /** Looks for an all out of a side; answers the points that the rival has by it. */
    private int allOut(Side side, Side rival) {
        if (side.mat.count > 0) {
            return 0;
        }
        rival.points += ALL_OUT_POINTS;
        if (side.out.count == 0) {
            match.isOn = false;
        }
        side.revive(side.out.count);
        return ALL_OUT_POINTS;
    }

    // Between raids.

    public char card(int player, char card) throws IndexOutOfBoundsException, IllegalArgumentException, IllegalStateException, UnsupportedOperationException {
        needPlayer(player);
        if (card != 'g' && card != 'y' && card != 'r') {
            throw new IllegalArgumentException();
        }
        needPause();
        Side side = match.sideWith(player);
        char counting = card == 'g' && match.greens.get(player) > 0 ? 'y' : card;
        boolean isLast = side.mat.count == 1 && side.mat.has(player);
        if (!side.isInPlay(player) || (isLast && counting != 'g')) {
            throw new UnsupportedOperationException();
        }
        if (counting == 'g') {
            match.greens.set(player, 1);
        } else {
            side.sendOff(player);
            match.sittings.set(player, counting == 'y' ? YELLOW_RAIDS : FOR_THE_MATCH);
        }
        return counting;
    }

    public int substitute(int player, int other) throws IndexOutOfBoundsException, IllegalStateException, UnsupportedOperationException {
        needPlayer(player);
        needPlayer(other);
        needPause();
        Side side = match.sideWith(player);
        if (!side.mat.has(player) || !side.bench.has(other) || side.changes >= MOST_CHANGES) {
            throw new UnsupportedOperationException();
        }
        side.change(player, other);
        return side.changes;
    }

    public boolean review(int side, int player) throws IndexOutOfBoundsException, IllegalArgumentException, IllegalStateException, UnsupportedOperationException {
        needPlayer(player);
        needSide(side);
        needPause();
        if (!raid.isReturned || raid.isAllOut) {
            throw new IllegalStateException();
        }
        if (!match.sideAt(side).hasReview || !raid.isReviewable(player) || wouldEmptyMat(player)) {
            throw new UnsupportedOperationException();
        }
        raid.markReviewed(player);
        if (!raid.isWrong(player)) {
            match.sideAt(side).hasReview = false;
            return false;
        }
        putRight(player);
        return true;
    }

    private boolean wouldEmptyMat(int player) {
        Side defenders = match.lastDefenders();
        return raid.isWrong(player) && !raid.isCalled(player) && defenders.mat.count == 1 && defenders.mat.has(player);
    }

    private void putRight(int player) {
        Side defenders = match.lastDefenders();
        if (raid.isCalled(player)) {
            defenders.comeOn(player);
            match.lastRaiders().points--;
        } else {
            defenders.goOut(player);
            match.lastRaiders().points++;
        }
    }

    // Statistics and values.

    public int told(int player, char what) throws IndexOutOfBoundsException, IllegalArgumentException {
        needPlayer(player);
        if (what == 'r') {
            return statistics.raidPoints.get(player);
        }
        if (what == 't') {
            return statistics.tacklePoints.get(player);
        }
        if (what == 's') {
            return statistics.superRaids.get(player);
        }
        if (what == 'n') {
            return statistics.raidsOf.get(player);
        }
        throw new IllegalArgumentException();
    }

    public double value(int raiders, int defenders, int empty, int otherEmpty, int raids, int touch, int caught) throws IllegalArgumentException {
        if (raiders < 1 || raiders > 7 || defenders < 1 || defenders > 7) {
            throw new IllegalArgumentException();
        }
        if (empty < 0 || empty > 2 || otherEmpty < 0 || otherEmpty > 2 || raids < 0 || raids > MOST_RAIDS_LEFT) {
            throw new IllegalArgumentException();
        }
        if (touch < 0 || touch > 100 || caught < 0 || caught > 100 - touch) {
            throw new IllegalArgumentException();
        }
        values.ask(raiders, defenders, empty, otherEmpty);
        values.expect(touch, caught);
        return values.solveBackward(raids);
    }

    public float emptyShare() throws ArithmeticException {
        if (statistics.raids == 0) {
            throw new ArithmeticException();
        }
        return (float) statistics.emptyRaids / (float) statistics.raids;
    }

    public double meanPoints() throws ArithmeticException {
        if (statistics.raids == 0) {
            throw new ArithmeticException();
        }
        return (double) statistics.points / (double) statistics.raids;
    }

    // The league.

    public int league(int squad) throws IndexOutOfBoundsException {
        needSquad(squad);
        return clubs.points.get(squad);
    }

    public int placed(int place) throws NoSuchElementException {
        if (place < 0 || place >= clubs.count) {
            throw new NoSuchElementException();
        }
        return clubs.squadAt(place);
    }

    public int champion() throws UnsupportedOperationException {
        if (clubs.count < 3) {
            throw new UnsupportedOperationException();
        }
        int challenger = stronger(clubs.squadAt(1), clubs.squadAt(2));
        return stronger(clubs.squadAt(0), challenger);
    }

    private int stronger(int better, int worse) {
        return roster.strengthOf(worse) > roster.strengthOf(better) ? worse : better;
    }

    // Checks.

    public long checksum() {
        long start = 7L;
        return match.begun == 0 ? start : match.other.sumInto(match.first.sumInto(start));
    }

    public boolean isTrue() {
        return isEachInOnePlace() && isEachInOneSquad() && arePursesRight() && values.isSolvedBackward();
    }

    private boolean isEachInOnePlace() {
        if (!match.isOn) {
            return true;
        }
        for (int player = 0; player < roster.count; player++) {
            int squad = roster.squads.get(player);
            boolean isOfMatch = squad == match.first.squad || squad == match.other.squad;
            int places = match.first.placesOf(player) + match.other.placesOf(player);
            if (match.sittings.get(player) != 0) {
                places++;
            }
            if (places != (isOfMatch ? 1 : 0)) {
                return false;
            }
        }
        return true;
    }

    private boolean isEachInOneSquad() {
        int inSquads = 0;
        for (int squad = 0; squad < clubs.count; squad++) {
            if (roster.sizeOf(squad) > MOST_IN_SQUAD) {
                return false;
            }
            inSquads += roster.sizeOf(squad);
        }
        return inSquads + roster.sizeOf(NOBODY) == roster.count;
    }

    private boolean arePursesRight() {
        for (int squad = 0; squad < clubs.count; squad++) {
            int purse = clubs.purses.get(squad);
            if (purse < 0 || purse != FULL_PURSE - roster.paidBy(squad)) {
                return false;
            }
        }
        return true;
    }

    /** A row of numbers by players or squads; there is nothing beyond its ends, and nothing is kept there. */
    private static final class Row {
        private final int[] cells;

        Row(int length) {
            cells = new int[length > 0 ? length : 0];
        }

        int get(int index) {
            return index >= 0 && index < cells.length ? cells[index] : 0;
        }

        void set(int index, int number) {
            if (index >= 0 && index < cells.length) {
                cells[index] = number;
            }
        }

        void add(int index, int number) {
            set(index, get(index) + number);
        }

        void fill(int number) {
            for (int i = 0; i < cells.length; i++) {
                cells[i] = number;
            }
        }
    }

    /** Some players of a squad in an order. */
    private static final class Line {
        private final int[] members = new int[MOST_IN_SQUAD];
        private int count;

        int at(int index) {
            return index >= 0 && index < count && index < members.length ? members[index] : NOBODY;
        }

        boolean has(int player) {
            for (int i = 0; i < count; i++) {
                if (at(i) == player) {
                    return true;
                }
            }
            return false;
        }

        void append(int player) {
            if (count >= 0 && count < members.length) {
                members[count] = player;
                count++;
            }
        }

        /** Keeps a line by rising numbers so. */
        void insertByNumber(int player) {
            if (count < 0 || count >= members.length) {
                return;
            }
            int place = count;
            for (int i = count - 1; i >= 0 && i + 1 < members.length && members[i] > player; i--) {
                members[i + 1] = members[i];
                place = i;
            }
            members[place] = player;
            count++;
        }

        /** Answers whether the player was there. */
        boolean remove(int player) {
            int kept = 0;
            for (int i = 0; i < count && i < members.length; i++) {
                if (members[i] != player) {
                    members[kept] = members[i];
                    kept++;
                }
            }
            boolean wasThere = kept < count;
            count = kept;
            return wasThere;
        }

        void clear() {
            count = 0;
        }
    }

    /** The players, and the squads in which they are and were. */
    private static final class Roster {
        private final Row reaches = new Row(MOST_PLAYERS);
        private final Row speeds = new Row(MOST_PLAYERS);
        private final Row grips = new Row(MOST_PLAYERS);
        private final Row bases = new Row(MOST_PLAYERS);
        private final Row squads = new Row(MOST_PLAYERS);
        private final Row former = new Row(MOST_PLAYERS);
        private final Row prices = new Row(MOST_PLAYERS);
        private int count;

        int enter(int reach, int speed, int grip, int base) {
            int player = count;
            reaches.set(player, reach);
            speeds.set(player, speed);
            grips.set(player, grip);
            bases.set(player, base);
            squads.set(player, NOBODY);
            former.set(player, NOBODY);
            count++;
            return player;
        }

        int sizeOf(int squad) {
            int size = 0;
            for (int player = 0; player < count; player++) {
                if (squads.get(player) == squad) {
                    size++;
                }
            }
            return size;
        }

        int paidBy(int squad) {
            int paid = 0;
            for (int player = 0; player < count; player++) {
                if (squads.get(player) == squad) {
                    paid += prices.get(player);
                }
            }
            return paid;
        }

        int strengthOf(int squad) {
            int strength = 0;
            for (int player = 0; player < count; player++) {
                if (squads.get(player) == squad) {
                    strength += reaches.get(player) + speeds.get(player) + grips.get(player);
                }
            }
            return strength;
        }

        int raidingStrength(int player) {
            return reaches.get(player) + 2 * speeds.get(player);
        }

        /** Leaves all without squads; answers how many had one. */
        int release() {
            int released = 0;
            for (int player = 0; player < count; player++) {
                int squad = squads.get(player);
                if (squad != NOBODY) {
                    former.set(player, squad);
                    squads.set(player, NOBODY);
                    prices.set(player, 0);
                    released++;
                }
            }
            return released;
        }
    }

    /** The squads: their purses, whether they have matched a bid, and the league. */
    private static final class Clubs {
        private final Row purses = new Row(MOST_SQUADS);
        private final Row matched = new Row(MOST_SQUADS);
        private final Row points = new Row(MOST_SQUADS);
        private final Row differences = new Row(MOST_SQUADS);
        private int count;

        int enter() {
            int squad = count;
            purses.set(squad, FULL_PURSE);
            count++;
            return squad;
        }

        void startAnew() {
            purses.fill(FULL_PURSE);
            points.fill(0);
            differences.fill(0);
        }

        void enterResult(Side first, Side other) {
            enterResultOf(first.squad, first.points - other.points);
            enterResultOf(other.squad, other.points - first.points);
        }

        int squadAt(int place) {
            for (int squad = 0; squad < count; squad++) {
                if (placeOf(squad) == place) {
                    return squad;
                }
            }
            return NOBODY;
        }

        private void enterResultOf(int squad, int difference) {
            differences.add(squad, difference);
            if (difference > 0) {
                points.add(squad, 5);
            } else if (difference == 0) {
                points.add(squad, 3);
            } else if (difference >= -7) {
                points.add(squad, 1);
            }
        }

        private int placeOf(int squad) {
            int place = 0;
            for (int rival = 0; rival < count; rival++) {
                if (isBetter(rival, squad)) {
                    place++;
                }
            }
            return place;
        }

        private boolean isBetter(int squad, int rival) {
            if (points.get(squad) != points.get(rival)) {
                return points.get(squad) > points.get(rival);
            }
            if (differences.get(squad) != differences.get(rival)) {
                return differences.get(squad) > differences.get(rival);
            }
            return squad < rival;
        }
    }

    /** The player who is put up, and the last bid. */
    private static final class Auction {
        private int player = NOBODY;
        private int bidder = NOBODY;
        private int price;
        private int bids;

        boolean isOpen() {
            return player != NOBODY;
        }

        void open(int candidate) {
            player = candidate;
            bidder = NOBODY;
            price = 0;
            bids = 0;
        }

        void take(int squad, int offer) {
            bidder = squad;
            price = offer;
            bids++;
        }

        void close() {
            open(NOBODY);
        }
    }

    /** What an edition tells. */
    private static final class Edition {
        private int standing = 7;
        private int bonusFrom = 6;
        private boolean isRevived = true;
        private int half = 10;

        void change(int newStanding, int newBonusFrom, boolean newIsRevived, int newHalf) {
            standing = newStanding;
            bonusFrom = newBonusFrom;
            isRevived = newIsRevived;
            half = newHalf;
        }
    }

    /** A squad in a match. */
    private static final class Side {
        private final Line mat = new Line();
        private final Line out = new Line();
        private final Line bench = new Line();
        private int squad = NOBODY;
        private int points;
        private int emptyRaids;
        private int changes;
        private boolean hasReview;

        void lineUp(Roster roster, int newSquad, int standing) {
            squad = newSquad;
            points = 0;
            emptyRaids = 0;
            changes = 0;
            hasReview = true;
            mat.clear();
            out.clear();
            bench.clear();
            for (int player = 0; player < roster.count; player++) {
                if (roster.squads.get(player) == squad) {
                    if (mat.count < standing) {
                        mat.append(player);
                    } else {
                        bench.append(player);
                    }
                }
            }
        }

        /** Answers whether the player stood on the mat. */
        boolean goOut(int player) {
            boolean stood = mat.remove(player);
            if (stood) {
                out.append(player);
            }
            return stood;
        }

        void comeOn(int player) {
            if (out.remove(player)) {
                mat.insertByNumber(player);
            }
        }

        void revive(int most) {
            for (int i = 0; i < most && out.count > 0; i++) {
                comeOn(out.at(0));
            }
        }

        boolean isInPlay(int player) {
            return mat.has(player) || out.has(player);
        }

        void sendOff(int player) {
            mat.remove(player);
            out.remove(player);
        }

        void change(int going, int coming) {
            mat.remove(going);
            bench.remove(coming);
            mat.insertByNumber(coming);
            bench.append(going);
            changes++;
        }

        int placesOf(int player) {
            int places = mat.has(player) ? 1 : 0;
            if (out.has(player)) {
                places++;
            }
            return bench.has(player) ? places + 1 : places;
        }

        long sumInto(long start) {
            long sum = 31L * start + points;
            for (int i = 0; i < mat.count; i++) {
                sum = 31L * sum + mat.at(i);
            }
            for (int i = 0; i < out.count; i++) {
                sum = 31L * sum + out.at(i) + 100;
            }
            return sum;
        }
    }

    /** The match that goes on, or was last. */
    private static final class Match {
        private static final int EXTRA_RAIDS = 4;

        private final Side first = new Side();
        private final Side other = new Side();
        private final Row greens = new Row(MOST_PLAYERS);
        /** The raids that a player still sits out, below 0 for the match. */
        private final Row sittings = new Row(MOST_PLAYERS);
        private boolean isOn;
        private boolean mustBeWon;
        private int half;
        private int raidsOver;
        private int begun;

        void start(boolean newMustBeWon, int newHalf) {
            greens.fill(0);
            sittings.fill(0);
            isOn = true;
            mustBeWon = newMustBeWon;
            half = newHalf;
            raidsOver = 0;
            begun++;
        }

        Side sideAt(int side) {
            return side == 0 ? first : other;
        }

        Side sideOfSquad(int squad) {
            return squad == first.squad ? first : other;
        }

        /** The side of a player on the mat or out; the other one for a player who is neither. */
        Side sideWith(int player) {
            return first.isInPlay(player) ? first : other;
        }

        int sideInTurn() {
            return sideOfRaid(raidsOver);
        }

        Side raiders() {
            return sideAt(sideOfRaid(raidsOver));
        }

        Side defenders() {
            return sideAt(1 - sideOfRaid(raidsOver));
        }

        Side lastRaiders() {
            return sideAt(sideOfRaid(raidsOver - 1));
        }

        Side lastDefenders() {
            return sideAt(1 - sideOfRaid(raidsOver - 1));
        }

        boolean isDecided() {
            if (raidsOver < 2 * half) {
                return false;
            }
            if (raidsOver == 2 * half && !mustBeWon) {
                return true;
            }
            boolean isInExtraRaids = raidsOver > 2 * half && raidsOver < 2 * half + EXTRA_RAIDS;
            return !isInExtraRaids && first.points != other.points;
        }

        /** The first squad begins, but in the second half the other one does; a half has an even number of raids. */
        private int sideOfRaid(int index) {
            boolean isSecondHalf = index >= half && index < 2 * half;
            return isSecondHalf ? 1 - (index & 1) : index & 1;
        }
    }

    /** The raid that goes on, or was last. */
    private static final class Raid {
        private static final int MOST_SECONDS = 30;
        private static final int MOST_FOR_SUPER_TACKLE = 3;
        private static final int TOLD = 1;
        private static final int REAL = 2;
        private static final int CALLED = 4;
        private static final int REVIEWED = 8;
        private static final int HELD = 16;

        private final Row marks = new Row(MOST_PLAYERS);
        private boolean isOn;
        private boolean isDoOrDie;
        private boolean isReturned;
        private boolean isAllOut;
        private int raider = NOBODY;
        private int stood;
        private int seconds;
        private int bonus;
        private int steps;
        private int touches;

        void forget() {
            start(NOBODY, 0, false);
            isOn = false;
        }

        void start(int newRaider, int newStood, boolean newIsDoOrDie) {
            marks.fill(0);
            isOn = true;
            isDoOrDie = newIsDoOrDie;
            isReturned = false;
            isAllOut = false;
            raider = newRaider;
            stood = newStood;
            seconds = 0;
            bonus = 0;
            steps = 0;
            touches = 0;
        }

        boolean hasBreathFor(int more) {
            return seconds + more <= MOST_SECONDS;
        }

        int spend(int more) {
            seconds += more;
            return seconds;
        }

        int brought() {
            return touches + bonus + steps;
        }

        int tacklePoints() {
            return stood <= MOST_FOR_SUPER_TACKLE ? 2 : 1;
        }

        boolean isTouched(int player) {
            return marks.get(player) != 0;
        }

        boolean isCalled(int player) {
            return (marks.get(player) & CALLED) != 0;
        }

        boolean isWrong(int player) {
            boolean isReal = (marks.get(player) & REAL) != 0;
            return isReal != isCalled(player);
        }

        boolean isReviewable(int player) {
            return (marks.get(player) & (TOLD | REVIEWED)) == TOLD;
        }

        void markTold(int player, boolean isReal, boolean isCalled) {
            marks.set(player, TOLD | (isReal ? REAL : 0) | (isCalled ? CALLED : 0));
        }

        /** Whoever was told as touched before keeps that, called or not. */
        void markHeld(int player) {
            if (!isTouched(player)) {
                marks.set(player, HELD | CALLED);
            }
        }

        void markReviewed(int player) {
            marks.set(player, marks.get(player) | REVIEWED);
        }
    }

    /** The numbers over all matches. */
    private static final class Statistics {
        private final Row raidPoints = new Row(MOST_PLAYERS);
        private final Row tacklePoints = new Row(MOST_PLAYERS);
        private final Row superRaids = new Row(MOST_PLAYERS);
        private final Row raidsOf = new Row(MOST_PLAYERS);
        private int raids;
        private int emptyRaids;
        private int points;

        void record(int raider, int brought, boolean isEmpty) {
            raidsOf.add(raider, 1);
            raids++;
            points += brought;
            if (isEmpty) {
                emptyRaids++;
            }
        }
    }

    /**
     * Values of states, solved backward from no raid left, by the chances that were asked for last.
     * A pair is where the states with some raiders and defenders begin: three by empty raids of the
     * squad in turn, and in each of these three by those of the other one.
     */
    private static final class Values {
        private static final int ALL = 7;
        private static final int MOST_EMPTY = 2;
        private static final int STATES = 441;
        private static final int CHECKED_RAIDS = 2;

        private double[] now = new double[STATES];
        private double[] later = new double[STATES];
        private int raiders = ALL;
        private int defenders = ALL;
        private int empty;
        private int otherEmpty;
        private int touch = 50;
        private int caught = 30;

        void ask(int newRaiders, int newDefenders, int newEmpty, int newOtherEmpty) {
            raiders = newRaiders;
            defenders = newDefenders;
            empty = newEmpty;
            otherEmpty = newOtherEmpty;
        }

        void expect(int newTouch, int newCaught) {
            touch = newTouch;
            caught = newCaught;
        }

        double solveBackward(int raids) {
            for (int i = 0; i < STATES; i++) {
                keep(i, 0.0);
            }
            for (int left = 1; left <= raids; left++) {
                double[] solved = now;
                now = later;
                later = solved;
                solveOneMore();
            }
            return read(now, pair(raiders, defenders) + empty * 3 + otherEmpty);
        }

        /** Whether the value with few raids left, looked for forward through all that can come, is the same. */
        boolean isSolvedBackward() {
            return lookAhead(raiders, defenders, empty, otherEmpty, CHECKED_RAIDS) == solveBackward(CHECKED_RAIDS);
        }

        private void solveOneMore() {
            for (int r = 1; r <= ALL; r++) {
                for (int d = 1; d <= ALL; d++) {
                    solvePair(r, d);
                }
            }
        }

        private void solvePair(int r, int d) {
            int pair = pair(r, d);
            int empties = pair(d, r);
            int touched = pair(defendersBehindTouch(d), raidersBehindTouch(r));
            int out = pair(defendersBehindOut(d), raidersBehindOut(r));
            double rest = chance(100 - touch - caught);
            for (int o = 0; o <= MOST_EMPTY; o++) {
                double sum = chance(touch) * ((double) touchGain(d) - read(later, touched + o * 3))
                    + chance(caught) * ((double) -caughtLoss(r, d) - read(later, out + o * 3));
                for (int e = 0; e < MOST_EMPTY; e++) {
                    keep(pair + e * 3 + o, sum + rest * (0.0 - read(later, empties + o * 3 + e + 1)));
                }
                keep(pair + MOST_EMPTY * 3 + o, sum + rest * ((double) -doOrDieLoss(r) - read(later, out + o * 3)));
            }
        }

        private double lookAhead(int r, int d, int e, int o, int raids) {
            if (raids <= 0) {
                return 0.0;
            }
            int left = raids - 1;
            double byTouch = (double) touchGain(d) - lookAhead(defendersBehindTouch(d), raidersBehindTouch(r), o, 0, left);
            double byOut = lookAhead(defendersBehindOut(d), raidersBehindOut(r), o, 0, left);
            double byEmpty = e < MOST_EMPTY ? 0.0 - lookAhead(d, r, o, e + 1, left) : (double) -doOrDieLoss(r) - byOut;
            return chance(touch) * byTouch + chance(caught) * ((double) -caughtLoss(r, d) - byOut)
                + chance(100 - touch - caught) * byEmpty;
        }

        private static int pair(int r, int d) {
            return ((r - 1) * ALL + d - 1) * 9;
        }

        private static double chance(int percent) {
            return (double) percent / 100.0;
        }

        private static int touchGain(int d) {
            return d == 1 ? 1 + ALL_OUT_POINTS : 1;
        }

        private static int caughtLoss(int r, int d) {
            int tackle = d <= Raid.MOST_FOR_SUPER_TACKLE ? 2 : 1;
            return r == 1 ? tackle + ALL_OUT_POINTS : tackle;
        }

        private static int doOrDieLoss(int r) {
            return r == 1 ? 1 + ALL_OUT_POINTS : 1;
        }

        private static int raidersBehindTouch(int r) {
            return r < ALL ? r + 1 : ALL;
        }

        private static int defendersBehindTouch(int d) {
            return d == 1 ? ALL : d - 1;
        }

        private static int raidersBehindOut(int r) {
            return r == 1 ? ALL : r - 1;
        }

        private static int defendersBehindOut(int d) {
            return d < ALL ? d + 1 : ALL;
        }

        private void keep(int index, double number) {
            if (index >= 0 && index < now.length) {
                now[index] = number;
            }
        }

        private static double read(double[] row, int index) {
            return index >= 0 && index < row.length ? row[index] : 0.0;
        }
    }
}

/** Objects to begin a test with. */
final class Posts {
    private Posts() {
    }

    static PigeonPost withTowns(int many) {
        PigeonPost post = new PigeonPost();
        for (int i = 0; i < many; i++) post.town();
        return post;
    }

    /** So many BIRDS more of a HOME, carried to a TOWN. */
    static void birds(PigeonPost post, int many, int home, int town) {
        for (int i = 0; i < many; i++) post.carry(post.bird(home), town);
    }

    /** A TRAY with these numbers. */
    static void fill(PigeonPost post, int tray, int sort, long... numbers) {
        post.tray(tray, sort, numbers.length);
        for (int i = 0; i < numbers.length; i++) post.write(tray, i, numbers[i]);
    }

    /** A LETTER of so many bytes 1, 2, 3 .. */
    static int letter(PigeonPost post, int town, int many, int minute) {
        post.tray(3, 1, many);
        for (int i = 0; i < many; i++) post.write(3, i, i + 1);
        return post.letter(town, 3, many, minute);
    }
}
